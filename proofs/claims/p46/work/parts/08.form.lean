/-! every step has the form that the run wants -/
theorem pf_push {v : pV} {nx : Nat} : pForm (s_push v nx) := fun ls st M => Or.inr (Or.inl ⟨_, _, _, _, fun _ _ => rfl⟩)
theorem pf_ild {i nx : Nat} : pForm (s_ild i nx) := fun ls st M => by
  rcases h : ls.getD i (.inr 0) with x | x
  · exact Or.inr (Or.inl ⟨nx, ls, .inl x :: st, M, fun _ _ => by unfold s_ild; rw [h]⟩)
  · exact Or.inl ⟨none, fun _ _ => by unfold s_ild; rw [h]⟩
theorem pf_ald {i nx : Nat} : pForm (s_ald i nx) := fun ls st M => by
  rcases h : ls.getD i (.inr 0) with x | _ | k
  · exact Or.inl ⟨none, fun _ _ => by unfold s_ald; rw [h]⟩
  · exact Or.inl ⟨none, fun _ _ => by unfold s_ald; rw [h]⟩
  exact Or.inr (Or.inl ⟨nx, ls, .inr (k + 1) :: st, M, fun _ _ => by unfold s_ald; rw [h]⟩)
theorem pf_ist {i nx : Nat} : pForm (s_ist i nx) := fun ls st M => by
  rcases st with _ | ⟨x | x, r⟩
  any_goals exact Or.inl ⟨none, fun _ _ => rfl⟩
  exact Or.inr (Or.inl ⟨_, _, _, _, fun _ _ => rfl⟩)
theorem pf_ast {i nx : Nat} : pForm (s_ast i nx) := fun ls st M => by
  rcases st with _ | ⟨x | _ | x, r⟩
  any_goals exact Or.inl ⟨none, fun _ _ => rfl⟩
  exact Or.inr (Or.inl ⟨_, _, _, _, fun _ _ => rfl⟩)
theorem pf_bin {f : Int → Int → Int} {nx : Nat} : pForm (s_bin f nx) := fun ls st M => by
  rcases st with _ | ⟨y | y, _ | ⟨x | x, r⟩⟩
  any_goals exact Or.inl ⟨none, fun _ _ => rfl⟩
  exact Or.inr (Or.inl ⟨_, _, _, _, fun _ _ => rfl⟩)
theorem pf_div {f : Int → Int → Int} {nx : Nat} : pForm (s_div f nx) := fun ls st M => by
  rcases st with _ | ⟨y | y, _ | ⟨x | x, r⟩⟩
  any_goals exact Or.inl ⟨none, fun _ _ => rfl⟩
  by_cases h : eq32 y 0
  · exact Or.inl ⟨none, fun _ _ => if_pos h⟩
  · exact Or.inr (Or.inl ⟨_, _, _, _, fun _ _ => if_neg h⟩)
theorem pf_un {f : Int → Int} {nx : Nat} : pForm (s_un f nx) := fun ls st M => by
  rcases st with _ | ⟨x | x, r⟩
  any_goals exact Or.inl ⟨none, fun _ _ => rfl⟩
  exact Or.inr (Or.inl ⟨_, _, _, _, fun _ _ => rfl⟩)
theorem pf_inc {i nx : Nat} {c : Int} : pForm (s_inc i c nx) := fun ls st M => by
  rcases h : ls.getD i (.inr 0) with x | x
  · exact Or.inr (Or.inl ⟨nx, ls.set i (.inl (x + c)), st, M, fun _ _ => by unfold s_inc; rw [h]⟩)
  · exact Or.inl ⟨none, fun _ _ => by unfold s_inc; rw [h]⟩
theorem pf_if {P : Int → Prop} {dP : DecidablePred P} {tgt nx : Nat} : pForm (s_if P dP tgt nx) := fun ls st M => by
  rcases st with _ | ⟨x | x, r⟩
  any_goals exact Or.inl ⟨none, fun _ _ => rfl⟩
  by_cases h : P x
  · exact Or.inr (Or.inl ⟨_, _, _, _, fun _ _ => if_pos h⟩)
  · exact Or.inr (Or.inl ⟨_, _, _, _, fun _ _ => if_neg h⟩)
theorem pf_if2 {P : Int → Int → Prop} {dP : ∀ x y, Decidable (P x y)} {tgt nx : Nat} : pForm (s_if2 P dP tgt nx) := fun ls st M => by
  rcases st with _ | ⟨y | y, _ | ⟨x | x, r⟩⟩
  any_goals exact Or.inl ⟨none, fun _ _ => rfl⟩
  by_cases h : P x y
  · exact Or.inr (Or.inl ⟨_, _, _, _, fun _ _ => if_pos h⟩)
  · exact Or.inr (Or.inl ⟨_, _, _, _, fun _ _ => if_neg h⟩)
theorem pf_goto {tgt : Nat} : pForm (s_goto tgt) := fun ls st M => Or.inr (Or.inl ⟨_, _, _, _, fun _ _ => rfl⟩)
theorem pf_getf {ci k nx : Nat} : pForm (s_getf ci k nx) := fun ls st M => by
  rcases st with _ | ⟨x | _ | _ | o, r⟩
  any_goals exact Or.inl ⟨none, fun _ _ => rfl⟩
  cases h : Nat.beq (pK o) ci
  · exact Or.inl ⟨none, fun _ _ => by unfold s_getf; dsimp only; rw [h]; rfl⟩
  · exact Or.inr (Or.inl ⟨nx, ls, pfv o k M :: r, M, fun _ _ => by unfold s_getf; dsimp only; rw [h]; rfl⟩)
theorem pf_puti {ci k nx : Nat} : pForm (s_puti ci k nx) := fun ls st M => by
  rcases st with _ | ⟨v | v, _ | ⟨x | _ | _ | o, r⟩⟩
  any_goals exact Or.inl ⟨none, fun _ _ => rfl⟩
  cases h : Nat.beq (pK o) ci
  · exact Or.inl ⟨none, fun _ _ => by unfold s_puti; dsimp only; rw [h]; rfl⟩
  · exact Or.inr (Or.inl ⟨nx, ls, r, pset M o k v, fun _ _ => by unfold s_puti; dsimp only; rw [h]; rfl⟩)
theorem pf_putz {ci k nx : Nat} : pForm (s_putz ci k nx) := fun ls st M => by
  rcases st with _ | ⟨v | v, _ | ⟨x | _ | _ | o, r⟩⟩
  any_goals exact Or.inl ⟨none, fun _ _ => rfl⟩
  cases h : Nat.beq (pK o) ci
  · exact Or.inl ⟨none, fun _ _ => by unfold s_putz; dsimp only; rw [h]; rfl⟩
  · by_cases h2 : v = 0 ∨ v = 1
    · exact Or.inr (Or.inl ⟨nx, ls, r, pset M o k v, fun _ _ => by unfold s_putz; dsimp only; rw [h]; exact if_pos h2⟩)
    · exact Or.inl ⟨none, fun _ _ => by unfold s_putz; dsimp only; rw [h]; exact if_neg h2⟩
theorem pf_putr {ci k tk nx : Nat} : pForm (s_putr ci k tk nx) := fun ls st M => by
  rcases st with _ | ⟨v | _ | _ | j, _ | ⟨x | _ | _ | o, r⟩⟩
  any_goals exact Or.inl ⟨none, fun _ _ => rfl⟩
  cases h : (Nat.beq (pK o) ci && Nat.beq (pK j) tk)
  · exact Or.inl ⟨none, fun _ _ => by unfold s_putr; dsimp only; rw [h]; rfl⟩
  · exact Or.inr (Or.inl ⟨nx, ls, r, pset M o k (Int.ofNat (j + 2)), fun _ _ => by unfold s_putr; dsimp only; rw [h]; rfl⟩)
theorem pf_get {kd nx : Nat} : pForm (s_get kd nx) := fun ls st M => by
  rcases st with _ | ⟨i | i, _ | ⟨x | _ | _ | o, r⟩⟩
  any_goals exact Or.inl ⟨none, fun _ _ => rfl⟩
  cases h : Nat.beq (pK o) kd
  · exact Or.inl ⟨none, fun _ _ => by unfold s_get; dsimp only; rw [h]; rfl⟩
  · by_cases h2 : 0 ≤ i ∧ i < Int.ofNat (pL o)
    · exact Or.inr (Or.inl ⟨nx, ls, .inl (M o i.toNat) :: r, M, fun _ _ => by unfold s_get; dsimp only; rw [h]; exact if_pos h2⟩)
    · exact Or.inl ⟨none, fun _ _ => by unfold s_get; dsimp only; rw [h]; exact if_neg h2⟩
theorem pf_set {kd nx : Nat} {f : Int → Int} : pForm (s_set kd f nx) := fun ls st M => by
  rcases st with _ | ⟨v | v, _ | ⟨i | i, _ | ⟨x | _ | _ | o, r⟩⟩⟩
  any_goals exact Or.inl ⟨none, fun _ _ => rfl⟩
  cases h : Nat.beq (pK o) kd
  · exact Or.inl ⟨none, fun _ _ => by unfold s_set; dsimp only; rw [h]; rfl⟩
  · by_cases h2 : 0 ≤ i ∧ i < Int.ofNat (pL o)
    · exact Or.inr (Or.inl ⟨nx, ls, r, pset M o i.toNat (f v), fun _ _ => by unfold s_set; dsimp only; rw [h]; exact if_pos h2⟩)
    · exact Or.inl ⟨none, fun _ _ => by unfold s_set; dsimp only; rw [h]; exact if_neg h2⟩
theorem pf_setz {nx : Nat} : pForm (s_setz nx) := fun ls st M => by
  rcases st with _ | ⟨v | v, _ | ⟨i | i, _ | ⟨x | _ | _ | o, r⟩⟩⟩
  any_goals exact Or.inl ⟨none, fun _ _ => rfl⟩
  cases h : Nat.beq (pK o) 102
  · exact Or.inl ⟨none, fun _ _ => by unfold s_setz; dsimp only; rw [h]; rfl⟩
  · by_cases h2 : 0 ≤ i ∧ i < Int.ofNat (pL o)
    · by_cases h3 : v = 0 ∨ v = 1
      · exact Or.inr (Or.inl ⟨nx, ls, r, pset M o i.toNat v, fun _ _ => by unfold s_setz; dsimp only; rw [h]; exact (if_pos h2).trans (if_pos h3)⟩)
      · exact Or.inl ⟨none, fun _ _ => by unfold s_setz; dsimp only; rw [h]; exact (if_pos h2).trans (if_neg h3)⟩
    · exact Or.inl ⟨none, fun _ _ => by unfold s_setz; dsimp only; rw [h]; exact if_neg h2⟩
theorem pf_getq {nx : Nat} : pForm (s_getq nx) := fun ls st M => by
  rcases st with _ | ⟨i | i, _ | ⟨x | _ | _ | o, r⟩⟩
  any_goals exact Or.inl ⟨none, fun _ _ => rfl⟩
  cases h : Nat.beq (pK o) 103
  · exact Or.inl ⟨none, fun _ _ => by unfold s_getq; dsimp only; rw [h]; rfl⟩
  · by_cases h2 : 0 ≤ i ∧ i < Int.ofNat (pL o)
    · exact Or.inr (Or.inl ⟨nx, ls, .inr (pFr o i.toNat + 2) :: r, M, fun _ _ => by unfold s_getq; dsimp only; rw [h]; exact if_pos h2⟩)
    · exact Or.inl ⟨none, fun _ _ => by unfold s_getq; dsimp only; rw [h]; exact if_neg h2⟩
theorem pf_len {nx : Nat} : pForm (s_len nx) := fun ls st M => by
  rcases st with _ | ⟨x | _ | _ | o, r⟩
  any_goals exact Or.inl ⟨none, fun _ _ => rfl⟩
  cases h : (Nat.ble 100 (pK o) && Nat.ble (pK o) 103)
  · exact Or.inl ⟨none, fun _ _ => by unfold s_len; dsimp only; rw [h]; rfl⟩
  · exact Or.inr (Or.inl ⟨nx, ls, .inl (Int.ofNat (pL o)) :: r, M, fun _ _ => by unfold s_len; dsimp only; rw [h]; rfl⟩)
theorem pf_dup {nx : Nat} : pForm (s_dup nx) := fun ls st M => by
  rcases st with _ | ⟨a, r⟩
  any_goals exact Or.inl ⟨none, fun _ _ => rfl⟩
  exact Or.inr (Or.inl ⟨_, _, _, _, fun _ _ => rfl⟩)
theorem pf_dup2 {nx : Nat} : pForm (s_dup2 nx) := fun ls st M => by
  rcases st with _ | ⟨a, _ | ⟨b, r⟩⟩
  any_goals exact Or.inl ⟨none, fun _ _ => rfl⟩
  exact Or.inr (Or.inl ⟨_, _, _, _, fun _ _ => rfl⟩)
theorem pf_dupx1 {nx : Nat} : pForm (s_dupx1 nx) := fun ls st M => by
  rcases st with _ | ⟨a, _ | ⟨b, r⟩⟩
  any_goals exact Or.inl ⟨none, fun _ _ => rfl⟩
  exact Or.inr (Or.inl ⟨_, _, _, _, fun _ _ => rfl⟩)
theorem pf_pop {nx : Nat} : pForm (s_pop nx) := fun ls st M => by
  rcases st with _ | ⟨a, r⟩
  any_goals exact Or.inl ⟨none, fun _ _ => rfl⟩
  exact Or.inr (Or.inl ⟨_, _, _, _, fun _ _ => rfl⟩)
theorem pf_ifnull {tgt nx : Nat} : pForm (s_ifnull tgt nx) := fun ls st M => by
  rcases st with _ | ⟨x | _ | _ | o, r⟩
  any_goals exact Or.inl ⟨none, fun _ _ => rfl⟩
  · exact Or.inr (Or.inl ⟨_, _, _, _, fun _ _ => rfl⟩)
  · exact Or.inr (Or.inl ⟨_, _, _, _, fun _ _ => rfl⟩)
theorem pf_sw_aux {x : Int} {d : Nat} {ls r : List pV} {M : pM} : ∀ ps : List (Int × Nat), ∃ t, ∀ X : pX, ps.foldr (fun q e => if eq32 x q.1 then X q.2 ls r M else e) (X d ls r M) = X t ls r M
  | [] => ⟨d, fun _ => rfl⟩
  | q :: ps => by
    obtain ⟨t, h⟩ := pf_sw_aux (x := x) (d := d) (ls := ls) (r := r) (M := M) ps
    by_cases h2 : eq32 x q.1
    · exact ⟨q.2, fun X => by rw [List.foldr_cons, if_pos h2]⟩
    · exact ⟨t, fun X => by rw [List.foldr_cons, if_neg h2]; exact h X⟩
theorem pf_sw {ps : List (Int × Nat)} {d : Nat} : pForm (s_sw ps d) := fun ls st M => by
  rcases st with _ | ⟨x | x, r⟩
  any_goals exact Or.inl ⟨none, fun _ _ => rfl⟩
  obtain ⟨t, h⟩ := pf_sw_aux (x := x) (d := d) (ls := ls) (r := r) (M := M) ps
  exact Or.inr (Or.inl ⟨t, ls, r, M, fun X _ => h X⟩)
theorem pf_callS {kd k n nx : Nat} : pForm (s_callS kd k n nx) := fun ls st M => by
  cases h : (Nat.ble n st.length && Nat.ble st.length 8)
  · exact Or.inl ⟨none, fun _ _ => by unfold s_callS; rw [h]; rfl⟩
  · exact Or.inr (Or.inr ⟨kd, k, (st.take n).reverse, M, nx, ls, st.drop n, fun _ _ => by unfold s_callS; rw [h]; rfl⟩)
theorem pf_callV {kd ci k n nx : Nat} : pForm (s_callV kd ci k n nx) := fun ls st M => by
  rcases hs : st.drop n with _ | ⟨x | _ | _ | o, r⟩
  · exact Or.inl ⟨none, fun _ _ => by unfold s_callV; rw [hs]⟩
  · exact Or.inl ⟨none, fun _ _ => by unfold s_callV; rw [hs]⟩
  · exact Or.inl ⟨none, fun _ _ => by unfold s_callV; rw [hs]⟩
  · exact Or.inl ⟨none, fun _ _ => by unfold s_callV; rw [hs]⟩
  cases h : (Nat.beq (pK o) ci && Nat.ble st.length 8)
  · exact Or.inl ⟨none, fun _ _ => by unfold s_callV; rw [hs]; dsimp only; rw [h]; rfl⟩
  · exact Or.inr (Or.inr ⟨kd, k, .inr (o + 2) :: (st.take n).reverse, M, nx, ls, r, fun _ _ => by unfold s_callV; rw [hs]; dsimp only; rw [h]; rfl⟩)
theorem pf_mm {f : Int → Int → Int} {nx : Nat} : pForm (s_mm f nx) := fun ls st M => by
  rcases st with _ | ⟨y | y, _ | ⟨x | x, r⟩⟩
  any_goals exact Or.inl ⟨none, fun _ _ => rfl⟩
  cases h : Nat.ble r.length 8
  · exact Or.inl ⟨none, fun _ _ => by unfold s_mm; dsimp only; rw [h]; rfl⟩
  · exact Or.inr (Or.inl ⟨nx, ls, .inl (f x y) :: r, M, fun _ _ => by unfold s_mm; dsimp only; rw [h]; rfl⟩)
theorem pf_iret : pForm s_iret := fun ls st M => Or.inl ⟨_, fun _ _ => rfl⟩
theorem pf_zret : pForm s_zret := fun ls st M => Or.inl ⟨_, fun _ _ => rfl⟩
theorem pf_aret : pForm s_aret := fun ls st M => Or.inl ⟨_, fun _ _ => rfl⟩
theorem pf_vret : pForm s_vret := fun ls st M => Or.inl ⟨_, fun _ _ => rfl⟩
theorem pf_sfld {v : pV} {nx : Nat} : pForm (s_sfld v nx) := fun ls st M => by
  by_cases h : ∃ r, st = .inr 93 :: r
  · obtain ⟨r, rfl⟩ := h
    exact Or.inr (Or.inl ⟨_, _, _, _, fun _ _ => rfl⟩)
  · refine Or.inl ⟨none, fun _ _ => ?_⟩
    unfold s_sfld
    split
    · exact absurd ⟨_, rfl⟩ h
    · rfl
theorem pf_slen {nx : Nat} : pForm (s_slen nx) := fun ls st M => by
  by_cases h : ∃ r, st = .inr 94 :: r
  · obtain ⟨r, rfl⟩ := h
    exact Or.inr (Or.inl ⟨_, _, _, _, fun _ _ => rfl⟩)
  · refine Or.inl ⟨none, fun _ _ => ?_⟩
    unfold s_slen
    split
    · exact absurd ⟨_, rfl⟩ h
    · rfl
theorem pf_sbld {nx : Nat} : pForm (s_sbld nx) := fun ls st M => by
  by_cases h : ∃ i r, st = .inl i :: .inr 94 :: r
  · obtain ⟨i, r, rfl⟩ := h
    by_cases h2 : 0 ≤ i ∧ i < 9
    · exact Or.inr (Or.inl ⟨_, _, _, _, fun _ _ => if_pos h2⟩)
    · exact Or.inl ⟨none, fun _ _ => if_neg h2⟩
  · refine Or.inl ⟨none, fun _ _ => ?_⟩
    unfold s_sbld
    split
    · exact absurd ⟨_, _, rfl⟩ h
    · rfl
theorem pf_callW {kd k n nx : Nat} : pForm (s_callW kd k n nx) := fun ls st M => by
  by_cases h : ∃ r, st.drop n = .inr 93 :: r
  · obtain ⟨r, hs⟩ := h
    cases h2 : Nat.ble st.length 8
    · exact Or.inl ⟨none, fun _ _ => by unfold s_callW; rw [hs]; rw [h2]; rfl⟩
    · exact Or.inr (Or.inr ⟨kd, k, .inr 93 :: (st.take n).reverse, M, nx, ls, r, fun _ _ => by unfold s_callW; rw [hs]; rw [h2]; rfl⟩)
  · refine Or.inl ⟨none, fun _ _ => ?_⟩
    unfold s_callW
    split
    · exact absurd ⟨_, by assumption⟩ h
    · rfl
theorem pf_none : pForm s_none := fun ls st M => Or.inl ⟨_, fun _ _ => rfl⟩
abbrev pFo : Nat → pS → Prop := fun _ f => pForm f
set_option maxRecDepth 100000 in
theorem F_0 : pAll pFo 0 C_0 := ⟨pf_ald, pf_getf, pf_ild, pf_callV, pf_if, pf_ald, pf_getf, pf_getf, pf_goto, pf_push, pf_iret, trivial⟩
set_option maxRecDepth 100000 in
theorem F_1 : pAll pFo 0 C_1 := ⟨pf_ald, pf_getf, pf_ild, pf_callV, pf_zret, trivial⟩
set_option maxRecDepth 100000 in
theorem F_2 : pAll pFo 0 C_2 := ⟨pf_ald, pf_getf, pf_getf, pf_if, pf_push, pf_iret, pf_ald, pf_getf, pf_ald, pf_getf, pf_callV, pf_ald, pf_getf, pf_ald, pf_getf, pf_callV, pf_ist, pf_ald, pf_getf, pf_push, pf_callV, pf_pop, pf_ild, pf_if, pf_ald, pf_getf, pf_ald, pf_getf, pf_callV, pf_ald, pf_getf, pf_callV, pf_ald, pf_getf, pf_callV, pf_ild, pf_iret, trivial⟩
set_option maxRecDepth 100000 in
theorem F_3 : pAll pFo 0 C_3 := ⟨pf_ald, pf_getf, pf_ald, pf_getf, pf_callV, pf_ist, pf_ild, pf_push, pf_if2, pf_ald, pf_getf, pf_getf, pf_ald, pf_getf, pf_callV, pf_ald, pf_getf, pf_push, pf_callV, pf_pop, pf_ild, pf_push, pf_if2, pf_push, pf_goto, pf_push, pf_ild, pf_bin, pf_iret, trivial⟩
set_option maxRecDepth 100000 in
theorem F_4 : pAll pFo 0 C_4 := ⟨pf_ald, pf_getf, pf_ild, pf_callV, pf_if, pf_ild, pf_if, pf_ild, pf_push, pf_if2, pf_none, pf_dup, pf_none, pf_none, pf_none, pf_ild, pf_sw, pf_ald, pf_getf, pf_getf, pf_ild, pf_get, pf_iret, pf_ald, pf_getf, pf_ild, pf_ald, pf_getf, pf_getf, pf_callV, pf_iret, pf_ald, pf_getf, pf_getf, pf_ild, pf_get, pf_ald, pf_getf, pf_ild, pf_ald, pf_getf, pf_getf, pf_callV, pf_bin, pf_iret, pf_ald, pf_getf, pf_ild, pf_push, pf_callV, pf_iret, trivial⟩
set_option maxRecDepth 100000 in
theorem F_5 : pAll pFo 0 C_5 := ⟨pf_ald, pf_getf, pf_ild, pf_callV, pf_if, pf_ild, pf_if, pf_ild, pf_push, pf_if2, pf_none, pf_dup, pf_none, pf_none, pf_none, pf_ild, pf_sw, pf_ald, pf_getf, pf_getf, pf_ild, pf_get, pf_iret, pf_ald, pf_getf, pf_getf, pf_ild, pf_get, pf_iret, pf_ald, pf_getf, pf_getf, pf_ild, pf_get, pf_iret, pf_ald, pf_getf, pf_getf, pf_ild, pf_get, pf_iret, pf_ald, pf_getf, pf_ild, pf_callV, pf_iret, pf_ald, pf_getf, pf_getf, pf_ild, pf_get, pf_iret, pf_ald, pf_getf, pf_ald, pf_getf, pf_ild, pf_ald, pf_getf, pf_getf, pf_ild, pf_get, pf_callV, pf_iret, trivial⟩
set_option maxRecDepth 100000 in
theorem F_6 : pAll pFo 0 C_6 := ⟨pf_ild, pf_if, pf_ild, pf_ald, pf_getf, pf_getf, pf_if2, pf_ald, pf_getf, pf_getf, pf_ild, pf_get, pf_goto, pf_push, pf_iret, trivial⟩
set_option maxRecDepth 100000 in
theorem F_7 : pAll pFo 0 C_7 := ⟨pf_ald, pf_getf, pf_ild, pf_ild, pf_callV, pf_if, pf_push, pf_iret, pf_ald, pf_getf, pf_ild, pf_ild, pf_callV, pf_ist, pf_ild, pf_if, pf_push, pf_goto, pf_ild, pf_iret, trivial⟩
set_option maxRecDepth 100000 in
theorem F_8 : pAll pFo 0 C_8 := ⟨pf_ald, pf_getf, pf_ild, pf_ild, pf_callV, pf_if, pf_ild, pf_if, pf_ild, pf_push, pf_if2, pf_push, pf_iret, pf_ald, pf_getf, pf_ild, pf_ild, pf_callV, pf_ist, pf_ald, pf_getf, pf_ild, pf_ild, pf_ild, pf_callV, pf_ild, pf_iret, trivial⟩
set_option maxRecDepth 100000 in
theorem F_9 : pAll pFo 0 C_9 := ⟨pf_ild, pf_push, pf_if2, pf_ild, pf_push, pf_if2, pf_push, pf_iret, pf_ald, pf_getf, pf_ist, pf_ald, pf_ild, pf_puti, pf_ild, pf_iret, trivial⟩
set_option maxRecDepth 100000 in
theorem F_10 : pAll pFo 0 C_10 := ⟨pf_ild, pf_if, pf_ild, pf_push, pf_if2, pf_ild, pf_push, pf_if2, pf_push, pf_iret, pf_ild, pf_push, pf_if2, pf_ald, pf_getf, pf_push, pf_push, pf_push, pf_push, pf_callV, pf_pop, pf_push, pf_iret, pf_ild, pf_if, pf_push, pf_goto, pf_ald, pf_getf, pf_ild, pf_ild, pf_ild, pf_ild, pf_callV, pf_iret, trivial⟩
set_option maxRecDepth 100000 in
theorem F_11 : pAll pFo 0 C_11 := ⟨pf_ald, pf_ild, pf_ild, pf_ald, pf_getf, pf_getf, pf_ald, pf_getf, pf_callV, pf_ist, pf_ild, pf_if, pf_ald, pf_ild, pf_ild, pf_ild, pf_callV, pf_ild, pf_iret, trivial⟩
set_option maxRecDepth 100000 in
theorem F_12 : pAll pFo 0 C_12 := ⟨pf_ald, pf_getf, pf_ald, pf_getf, pf_getf, pf_callV, pf_ist, pf_ald, pf_getf, pf_ald, pf_getf, pf_getf, pf_callV, pf_ist, pf_ald, pf_getf, pf_callV, pf_ald, pf_getf, pf_ild, pf_callV, pf_ald, pf_getf, pf_ild, pf_callV, pf_ild, pf_ild, pf_bin, pf_if, pf_ald, pf_callV, pf_goto, pf_push, pf_iret, trivial⟩
set_option maxRecDepth 100000 in
theorem F_13 : pAll pFo 0 C_13 := ⟨pf_ald, pf_callV, pf_ist, pf_ild, pf_push, pf_if2, pf_ald, pf_getf, pf_push, pf_callV, pf_pop, pf_push, pf_ild, pf_bin, pf_iret, pf_ald, pf_getf, pf_getf, pf_push, pf_bin, pf_push, pf_div, pf_ist, pf_push, pf_ist, pf_push, pf_ist, pf_push, pf_ist, pf_ild, pf_ild, pf_if2, pf_ald, pf_ald, pf_getf, pf_ild, pf_push, pf_bin, pf_callV, pf_push, pf_bin, pf_ald, pf_getf, pf_ild, pf_push, pf_bin, pf_push, pf_bin, pf_callV, pf_push, pf_bin, pf_callV, pf_ist, pf_ild, pf_if, pf_goto, pf_ild, pf_ild, pf_bin, pf_ist, pf_inc, pf_inc, pf_goto, pf_ald, pf_getf, pf_push, pf_callV, pf_pop, pf_ild, pf_ild, pf_if2, pf_push, pf_goto, pf_ald, pf_getf, pf_ald, pf_getf, pf_getf, pf_callV, pf_if, pf_ald, pf_callV, pf_goto, pf_push, pf_ist, pf_ald, pf_getf, pf_callV, pf_ald, pf_getf, pf_ild, pf_callV, pf_ald, pf_getf, pf_ild, pf_callV, pf_ild, pf_iret, trivial⟩
set_option maxRecDepth 100000 in
theorem F_14 : pAll pFo 0 C_14 := ⟨pf_ald, pf_getf, pf_getf, pf_if, pf_push, pf_iret, pf_ald, pf_getf, pf_dup, pf_getf, pf_push, pf_bin, pf_puti, pf_ald, pf_getf, pf_getf, pf_ald, pf_getf, pf_getf, pf_callS, pf_ist, pf_ald, pf_getf, pf_ild, pf_callV, pf_if, pf_ald, pf_getf, pf_getf, pf_ild, pf_ald, pf_getf, pf_getf, pf_ald, pf_getf, pf_getf, pf_callS, pf_set, pf_ald, pf_ald, pf_getf, pf_getf, pf_ald, pf_getf, pf_getf, pf_callS, pf_puti, pf_ald, pf_getf, pf_getf, pf_iret, trivial⟩
set_option maxRecDepth 100000 in
theorem F_15 : pAll pFo 0 C_15 := ⟨pf_ild, pf_if, pf_ild, pf_push, pf_if2, pf_push, pf_iret, pf_ald, pf_getf, pf_getf, pf_ald, pf_getf, pf_callS, pf_push, pf_ist, pf_push, pf_ist, pf_push, pf_ist, pf_ild, pf_ild, pf_if2, pf_ild, pf_push, pf_if2, pf_ild, pf_push, pf_ild, pf_bin, pf_bin, pf_push, pf_bin, pf_ist, pf_ald, pf_ild, pf_push, pf_div, pf_ild, pf_push, pf_div, pf_ald, pf_getf, pf_ald, pf_getf, pf_ild, pf_bin, pf_callV, pf_ist, pf_ild, pf_if, pf_ild, pf_ist, pf_goto, pf_ald, pf_getf, pf_ild, pf_push, pf_div, pf_ild, pf_push, pf_div, pf_set, pf_ild, pf_ild, pf_bin, pf_ist, pf_inc, pf_goto, pf_ald, pf_getf, pf_callV, pf_ald, pf_getf, pf_ild, pf_callV, pf_ald, pf_getf, pf_ald, pf_getf, pf_ald, pf_getf, pf_callV, pf_if, pf_push, pf_goto, pf_push, pf_callV, pf_ild, pf_iret, trivial⟩
set_option maxRecDepth 100000 in
theorem F_16 : pAll pFo 0 C_16 := ⟨pf_ald, pf_getf, pf_callV, pf_push, pf_ist, pf_ild, pf_ald, pf_getf, pf_getf, pf_if2, pf_ald, pf_getf, pf_ald, pf_getf, pf_getf, pf_ild, pf_get, pf_callV, pf_inc, pf_goto, pf_ald, pf_getf, pf_getf, pf_iret, trivial⟩
set_option maxRecDepth 100000 in
theorem F_17 : pAll pFo 0 C_17 := ⟨pf_ald, pf_getf, pf_getf, pf_if, pf_push, pf_iret, pf_push, pf_ist, pf_push, pf_ist, pf_ild, pf_ald, pf_getf, pf_getf, pf_if2, pf_ald, pf_getf, pf_ild, pf_callV, pf_ald, pf_getf, pf_ild, pf_callV, pf_if2, pf_ild, pf_ist, pf_inc, pf_goto, pf_ald, pf_getf, pf_ild, pf_callV, pf_ist, pf_ald, pf_getf, pf_callV, pf_ald, pf_getf, pf_ild, pf_callV, pf_ald, pf_getf, pf_ald, pf_getf, pf_ild, pf_callV, pf_callV, pf_ild, pf_iret, trivial⟩
set_option maxRecDepth 100000 in
theorem F_18 : pAll pFo 0 C_18 := ⟨pf_ald, pf_getf, pf_ild, pf_callV, pf_if, pf_push, pf_iret, pf_ald, pf_getf, pf_callV, pf_push, pf_ild, pf_bin, pf_push, pf_bin, pf_bin, pf_ist, pf_ald, pf_getf, pf_callV, pf_ald, pf_getf, pf_ald, pf_getf, pf_ild, pf_callV, pf_callV, pf_ald, pf_getf, pf_ild, pf_ald, pf_getf, pf_callV, pf_callV, pf_iret, trivial⟩
set_option maxRecDepth 100000 in
theorem F_19 : pAll pFo 0 C_19 := ⟨pf_ald, pf_getf, pf_ild, pf_callV, pf_if, pf_push, pf_iret, pf_ald, pf_getf, pf_ild, pf_callV, pf_ald, pf_getf, pf_callV, pf_ald, pf_getf, pf_getf, pf_iret, trivial⟩
set_option maxRecDepth 100000 in
theorem F_20 : pAll pFo 0 C_20 := ⟨pf_push, pf_ist, pf_push, pf_ist, pf_ild, pf_ald, pf_getf, pf_getf, pf_if2, pf_ald, pf_getf, pf_ald, pf_getf, pf_callV, pf_ald, pf_getf, pf_callV, pf_push, pf_ild, pf_bin, pf_push, pf_bin, pf_bin, pf_callV, pf_ald, pf_getf, pf_getf, pf_if2, pf_ild, pf_push, pf_ild, pf_bin, pf_bin, pf_ist, pf_inc, pf_goto, pf_ild, pf_iret, trivial⟩
set_option maxRecDepth 100000 in
theorem F_21 : pAll pFo 0 C_21 := ⟨pf_ald, pf_getf, pf_callV, pf_if, pf_push, pf_iret, pf_ald, pf_getf, pf_ald, pf_getf, pf_ald, pf_getf, pf_callV, pf_callV, pf_ald, pf_getf, pf_callV, pf_pop, pf_ald, pf_getf, pf_callV, pf_ald, pf_getf, pf_getf, pf_if, pf_ald, pf_callV, pf_ald, pf_getf, pf_getf, pf_iret, trivial⟩
set_option maxRecDepth 100000 in
theorem F_22 : pAll pFo 0 C_22 := ⟨pf_push, pf_ist, pf_push, pf_ist, pf_ild, pf_ald, pf_getf, pf_getf, pf_if2, pf_ild, pf_ald, pf_getf, pf_ald, pf_getf, pf_ild, pf_ald, pf_getf, pf_getf, pf_ild, pf_get, pf_callV, pf_bin, pf_ist, pf_inc, pf_goto, pf_ild, pf_iret, trivial⟩
set_option maxRecDepth 100000 in
theorem F_23 : pAll pFo 0 C_23 := ⟨pf_ald, pf_getf, pf_callV, pf_if, pf_push, pf_iret, pf_ald, pf_getf, pf_ald, pf_getf, pf_ald, pf_getf, pf_callV, pf_callV, pf_push, pf_ist, pf_ild, pf_ald, pf_getf, pf_getf, pf_if2, pf_push, pf_ist, pf_ild, pf_ald, pf_getf, pf_getf, pf_if2, pf_ald, pf_getf, pf_ald, pf_getf, pf_getf, pf_ild, pf_get, pf_ild, pf_ald, pf_getf, pf_ald, pf_getf, pf_ild, pf_ild, pf_callV, pf_callV, pf_inc, pf_goto, pf_inc, pf_goto, pf_ald, pf_getf, pf_callV, pf_if, pf_push, pf_iret, pf_ald, pf_getf, pf_callV, pf_ald, pf_getf, pf_ald, pf_getf, pf_getf, pf_callV, pf_ald, pf_callV, pf_push, pf_iret, trivial⟩
set_option maxRecDepth 100000 in
theorem F_24 : pAll pFo 0 C_24 := ⟨pf_ald, pf_getf, pf_callV, pf_if, pf_push, pf_goto, pf_ald, pf_push, pf_push, pf_callV, pf_iret, trivial⟩
set_option maxRecDepth 100000 in
theorem F_25 : pAll pFo 0 C_25 := ⟨pf_ald, pf_getf, pf_ild, pf_callV, pf_if, pf_ild, pf_if, pf_ild, pf_push, pf_if2, pf_push, pf_iret, pf_ald, pf_getf, pf_callV, pf_if, pf_push, pf_goto, pf_ald, pf_ild, pf_ild, pf_callV, pf_iret, trivial⟩
set_option maxRecDepth 100000 in
theorem F_26 : pAll pFo 0 C_26 := ⟨pf_ald, pf_getf, pf_callV, pf_if, pf_push, pf_iret, pf_push, pf_ist, pf_push, pf_ist, pf_ild, pf_ald, pf_getf, pf_getf, pf_if2, pf_ald, pf_ild, pf_push, pf_push, pf_callV, pf_if, pf_ald, pf_getf, pf_getf, pf_ild, pf_get, pf_ald, pf_getf, pf_getf, pf_bin, pf_ild, pf_if2, pf_ald, pf_getf, pf_getf, pf_ild, pf_get, pf_ald, pf_getf, pf_getf, pf_bin, pf_ist, pf_ald, pf_getf, pf_callV, pf_ald, pf_getf, pf_ild, pf_callV, pf_ald, pf_callV, pf_inc, pf_goto, pf_ild, pf_push, pf_if2, pf_push, pf_goto, pf_ild, pf_iret, trivial⟩
set_option maxRecDepth 100000 in
theorem F_27 : pAll pFo 0 C_27 := ⟨pf_ild, pf_push, pf_if2, pf_ild, pf_push, pf_if2, pf_ild, pf_if, pf_ild, pf_ald, pf_getf, pf_callV, pf_if2, pf_push, pf_iret, pf_ald, pf_getf, pf_callV, pf_if, pf_push, pf_iret, pf_ald, pf_getf, pf_ild, pf_callV, pf_ist, pf_ild, pf_ald, pf_getf, pf_ald, pf_getf, pf_ild, pf_callV, pf_callV, pf_bin, pf_ist, pf_push, pf_ist, pf_push, pf_ist, pf_ild, pf_ald, pf_getf, pf_getf, pf_if2, pf_ald, pf_getf, pf_ald, pf_getf, pf_ald, pf_getf, pf_callV, pf_ild, pf_push, pf_bin, pf_bin, pf_callV, pf_ald, pf_getf, pf_ild, pf_ild, pf_callV, pf_ald, pf_getf, pf_callV, pf_if, pf_ild, pf_push, pf_ild, pf_bin, pf_bin, pf_ist, pf_inc, pf_goto, pf_ild, pf_iret, trivial⟩
set_option maxRecDepth 100000 in
theorem F_28 : pAll pFo 0 C_28 := ⟨pf_ild, pf_if, pf_ild, pf_ald, pf_getf, pf_getf, pf_if2, pf_push, pf_iret, pf_ald, pf_getf, pf_callV, pf_if, pf_push, pf_iret, pf_ald, pf_getf, pf_getf, pf_ald, pf_getf, pf_ild, pf_callV, pf_callS, pf_ist, pf_push, pf_ist, pf_push, pf_ist, pf_ald, pf_getf, pf_ald, pf_getf, pf_ald, pf_getf, pf_callV, pf_callV, pf_push, pf_ist, pf_ild, pf_push, pf_if2, pf_ald, pf_getf, pf_callV, pf_if, pf_ald, pf_getf, pf_getf, pf_ild, pf_get, pf_ist, pf_ild, pf_push, pf_ild, pf_bin, pf_bin, pf_ist, pf_ild, pf_ild, pf_ild, pf_if2, pf_push, pf_goto, pf_push, pf_bin, pf_ist, pf_inc, pf_goto, pf_ald, pf_getf, pf_callV, pf_ald, pf_getf, pf_ild, pf_callV, pf_ild, pf_iret, trivial⟩
set_option maxRecDepth 100000 in
theorem F_29 : pAll pFo 0 C_29 := ⟨pf_ald, pf_getf, pf_ild, pf_callV, pf_if, pf_ald, pf_getf, pf_ild, pf_callV, pf_if, pf_ild, pf_ild, pf_if2, pf_push, pf_iret, pf_ald, pf_getf, pf_callV, pf_if, pf_push, pf_iret, pf_ald, pf_getf, pf_getf, pf_ild, pf_get, pf_ist, pf_ald, pf_getf, pf_getf, pf_ild, pf_get, pf_ist, pf_push, pf_ist, pf_push, pf_ist, pf_ald, pf_getf, pf_ald, pf_getf, pf_ald, pf_getf, pf_callV, pf_callV, pf_push, pf_ist, pf_ild, pf_push, pf_if2, pf_ald, pf_getf, pf_callV, pf_if, pf_inc, pf_ild, pf_ald, pf_getf, pf_getf, pf_ild, pf_callS, pf_ald, pf_getf, pf_getf, pf_ild, pf_callS, pf_if2, pf_push, pf_goto, pf_push, pf_bin, pf_ist, pf_inc, pf_goto, pf_ald, pf_getf, pf_callV, pf_ald, pf_getf, pf_ild, pf_callV, pf_ild, pf_iret, trivial⟩
set_option maxRecDepth 100000 in
theorem F_30 : pAll pFo 0 C_30 := ⟨pf_ald, pf_getf, pf_ild, pf_callV, pf_if, pf_push, pf_iret, pf_ald, pf_getf, pf_callV, pf_if, pf_push, pf_iret, pf_ald, pf_ild, pf_push, pf_push, pf_callV, pf_if, pf_push, pf_iret, pf_ald, pf_getf, pf_callV, pf_ald, pf_callV, pf_ald, pf_getf, pf_getf, pf_iret, trivial⟩
set_option maxRecDepth 100000 in
theorem F_31 : pAll pFo 0 C_31 := ⟨pf_ald, pf_getf, pf_ild, pf_ild, pf_callV, pf_if, pf_push, pf_iret, pf_ald, pf_getf, pf_getf, pf_ald, pf_getf, pf_callS, pf_push, pf_ist, pf_ild, pf_ald, pf_getf, pf_getf, pf_if2, pf_ald, pf_getf, pf_getf, pf_ild, pf_get, pf_ild, pf_if2, pf_ald, pf_getf, pf_ild, pf_ild, pf_set, pf_goto, pf_ald, pf_getf, pf_getf, pf_ild, pf_get, pf_ild, pf_if2, pf_ald, pf_getf, pf_ild, pf_ild, pf_set, pf_inc, pf_goto, pf_ald, pf_getf, pf_callV, pf_ald, pf_getf, pf_ald, pf_getf, pf_ald, pf_getf, pf_callV, pf_callV, pf_ald, pf_getf, pf_ald, pf_getf, pf_callV, pf_if, pf_push, pf_goto, pf_push, pf_iret, trivial⟩
set_option maxRecDepth 100000 in
theorem F_32 : pAll pFo 0 C_32 := ⟨pf_ald, pf_getf, pf_callV, pf_if, pf_push, pf_iret, pf_ald, pf_getf, pf_callV, pf_ist, pf_push, pf_ist, pf_ild, pf_push, pf_ald, pf_getf, pf_getf, pf_bin, pf_if2, pf_ald, pf_getf, pf_ild, pf_callV, pf_ist, pf_ald, pf_getf, pf_ild, pf_ild, pf_callV, pf_if, pf_ald, pf_getf, pf_ald, pf_getf, pf_ald, pf_getf, pf_callV, pf_ild, pf_push, pf_bin, pf_bin, pf_callV, pf_ald, pf_getf, pf_callV, pf_if, pf_ild, pf_goto, pf_ild, pf_ist, pf_inc, pf_goto, pf_ald, pf_getf, pf_callV, pf_ald, pf_getf, pf_ild, pf_callV, pf_ild, pf_callS, pf_iret, trivial⟩
set_option maxRecDepth 100000 in
theorem F_33 : pAll pFo 0 C_33 := ⟨pf_ald, pf_getf, pf_getf, pf_if, pf_push, pf_iret, pf_ald, pf_getf, pf_callV, pf_if, pf_push, pf_iret, pf_ald, pf_getf, pf_ald, pf_getf, pf_ald, pf_getf, pf_callV, pf_callV, pf_push, pf_ist, pf_ald, pf_getf, pf_callV, pf_if, pf_push, pf_goto, pf_push, pf_ist, pf_push, pf_ist, pf_ild, pf_ald, pf_getf, pf_getf, pf_if2, pf_ild, pf_if, pf_ald, pf_ild, pf_push, pf_push, pf_callV, pf_if, pf_ald, pf_getf, pf_getf, pf_un, pf_ald, pf_getf, pf_getf, pf_ild, pf_get, pf_bin, pf_ild, pf_if2, pf_ald, pf_getf, pf_getf, pf_un, pf_ald, pf_getf, pf_getf, pf_ild, pf_get, pf_bin, pf_ist, pf_ild, pf_ist, pf_inc, pf_goto, pf_ild, pf_push, pf_if2, pf_push, pf_iret, pf_ald, pf_getf, pf_callV, pf_ald, pf_getf, pf_ild, pf_callV, pf_ild, pf_iret, trivial⟩
set_option maxRecDepth 100000 in
theorem F_34 : pAll pFo 0 C_34 := ⟨pf_ald, pf_getf, pf_ild, pf_callV, pf_if, pf_ald, pf_getf, pf_ild, pf_callV, pf_if, pf_push, pf_iret, pf_ald, pf_getf, pf_getf, pf_ild, pf_get, pf_ist, pf_ald, pf_getf, pf_getf, pf_ild, pf_get, pf_ist, pf_ald, pf_getf, pf_ild, pf_ild, pf_ild, pf_callV, pf_ist, pf_ild, pf_if, pf_push, pf_iret, pf_ald, pf_getf, pf_callV, pf_ild, pf_push, pf_bin, pf_ist, pf_ild, pf_if, pf_ald, pf_getf, pf_ild, pf_ild, pf_ild, pf_ild, pf_callV, pf_ist, pf_ald, pf_getf, pf_ild, pf_callV, pf_inc, pf_goto, pf_ild, pf_iret, trivial⟩
set_option maxRecDepth 100000 in
theorem F_35 : pAll pFo 0 C_35 := ⟨pf_ald, pf_getf, pf_ild, pf_callV, pf_if, pf_ald, pf_getf, pf_ild, pf_callV, pf_if, pf_push, pf_iret, pf_push, pf_ist, pf_ild, pf_if, pf_ald, pf_getf, pf_ild, pf_ild, pf_ild, pf_callV, pf_if, pf_ild, pf_iret, pf_inc, pf_goto, pf_push, pf_iret, trivial⟩
set_option maxRecDepth 100000 in
theorem F_36 : pAll pFo 0 C_36 := ⟨pf_push, pf_ist, pf_push, pf_ist, pf_ild, pf_ald, pf_getf, pf_getf, pf_if2, pf_ald, pf_getf, pf_ald, pf_getf, pf_getf, pf_ild, pf_get, pf_ald, pf_getf, pf_getf, pf_ild, pf_get, pf_callV, pf_ald, pf_getf, pf_callV, pf_if2, pf_ild, pf_push, pf_ild, pf_bin, pf_bin, pf_ist, pf_inc, pf_goto, pf_ild, pf_iret, trivial⟩
set_option maxRecDepth 100000 in
theorem F_37 : pAll pFo 0 C_37 := ⟨pf_ald, pf_getf, pf_ild, pf_callV, pf_if, pf_push, pf_iret, pf_push, pf_ist, pf_push, pf_ist, pf_push, pf_ist, pf_push, pf_ist, pf_ild, pf_ald, pf_getf, pf_getf, pf_if2, pf_ild, pf_push, pf_bin, pf_ist, pf_ild, pf_ald, pf_getf, pf_getf, pf_if2, pf_ald, pf_getf, pf_ild, pf_ild, pf_callV, pf_if, pf_push, pf_goto, pf_ald, pf_getf, pf_ild, pf_ild, pf_ild, pf_callV, pf_ist, pf_ild, pf_ild, pf_if2, pf_ild, pf_ist, pf_ild, pf_ist, pf_ild, pf_ist, pf_inc, pf_goto, pf_inc, pf_goto, pf_ild, pf_push, pf_if2, pf_push, pf_iret, pf_ald, pf_getf, pf_callV, pf_ald, pf_getf, pf_ild, pf_callV, pf_ald, pf_getf, pf_ild, pf_callV, pf_ild, pf_iret, trivial⟩
set_option maxRecDepth 100000 in
theorem F_38 : pAll pFo 0 C_38 := ⟨pf_ald, pf_getf, pf_getf, pf_ist, pf_ild, pf_if, pf_push, pf_goto, pf_ald, pf_callV, pf_ist, pf_ild, pf_push, pf_if2, pf_push, pf_ist, pf_ild, pf_ild, pf_if2, pf_ild, pf_push, pf_if2, pf_ald, pf_getf, pf_ild, pf_ald, pf_getf, pf_ild, pf_callV, pf_push, pf_bin, pf_set, pf_inc, pf_goto, pf_ald, pf_ild, pf_puti, pf_ald, pf_getf, pf_push, pf_callV, pf_pop, pf_ild, pf_push, pf_if2, pf_ild, pf_goto, pf_push, pf_ild, pf_bin, pf_iret, trivial⟩
set_option maxRecDepth 100000 in
theorem F_39 : pAll pFo 0 C_39 := ⟨pf_ald, pf_callV, pf_if, pf_push, pf_iret, pf_ald, pf_getf, pf_ald, pf_getf, pf_callV, pf_ist, pf_ild, pf_if, pf_push, pf_iret, pf_ald, pf_getf, pf_callV, pf_ald, pf_getf, pf_ald, pf_getf, pf_ald, pf_getf, pf_callV, pf_if, pf_push, pf_goto, pf_push, pf_callV, pf_ild, pf_iret, trivial⟩
set_option maxRecDepth 100000 in
theorem F_40 : pAll pFo 0 C_40 := ⟨pf_ald, pf_callV, pf_if, pf_push, pf_iret, pf_ald, pf_getf, pf_ald, pf_getf, pf_callV, pf_if, pf_ald, pf_getf, pf_ald, pf_getf, pf_getf, pf_callV, pf_if, pf_push, pf_iret, pf_ald, pf_getf, pf_ald, pf_getf, pf_callV, pf_if, pf_ald, pf_getf, pf_ald, pf_getf, pf_ald, pf_getf, pf_callV, pf_if, pf_push, pf_iret, pf_ald, pf_getf, pf_callV, pf_push, pf_ist, pf_ild, pf_ald, pf_getf, pf_getf, pf_if2, pf_ald, pf_getf, pf_ald, pf_getf, pf_getf, pf_ild, pf_callS, pf_callV, pf_inc, pf_goto, pf_ald, pf_getf, pf_getf, pf_iret, trivial⟩
set_option maxRecDepth 100000 in
theorem F_41 : pAll pFo 0 C_41 := ⟨pf_ald, pf_callV, pf_ist, pf_ild, pf_if, pf_ild, pf_iret, pf_ald, pf_getf, pf_ald, pf_getf, pf_callV, pf_ist, pf_ild, pf_if, pf_push, pf_iret, pf_ald, pf_getf, pf_callV, pf_ald, pf_getf, pf_ald, pf_getf, pf_getf, pf_callV, pf_push, pf_ist, pf_ild, pf_ald, pf_getf, pf_getf, pf_if2, pf_ald, pf_getf, pf_ald, pf_getf, pf_ald, pf_getf, pf_getf, pf_ald, pf_getf, pf_getf, pf_ild, pf_get, pf_callV, pf_callV, pf_inc, pf_goto, pf_ild, pf_iret, trivial⟩
set_option maxRecDepth 100000 in
theorem F_42 : pAll pFo 0 C_42 := ⟨pf_ald, pf_callV, pf_ist, pf_ild, pf_if, pf_ild, pf_iret, pf_ald, pf_getf, pf_callV, pf_ist, pf_ild, pf_push, pf_if2, pf_push, pf_iret, pf_ald, pf_getf, pf_ild, pf_callV, pf_ist, pf_ald, pf_getf, pf_callV, pf_ald, pf_getf, pf_ild, pf_callV, pf_ild, pf_iret, trivial⟩
set_option maxRecDepth 100000 in
theorem F_43 : pAll pFo 0 C_43 := ⟨pf_ald, pf_ild, pf_callV, pf_ast, pf_ald, pf_ifnull, pf_push, pf_zret, pf_ald, pf_ald, pf_getf, pf_ald, pf_getf, pf_ald, pf_getf, pf_callV, pf_push, pf_zret, trivial⟩
set_option maxRecDepth 100000 in
theorem F_44 : pAll pFo 0 C_44 := ⟨pf_ald, pf_ild, pf_callV, pf_ast, pf_ald, pf_ifnull, pf_ald, pf_ald, pf_getf, pf_callV, pf_if, pf_push, pf_zret, pf_ald, pf_getf, pf_ald, pf_getf, pf_getf, pf_callS, pf_ald, pf_ald, pf_getf, pf_puti, pf_ald, pf_ald, pf_getf, pf_puti, pf_ald, pf_getf, pf_callV, pf_push, pf_zret, trivial⟩
set_option maxRecDepth 100000 in
theorem F_45 : pAll pFo 0 C_45 := ⟨pf_ild, pf_sw, pf_ald, pf_getf, pf_getf, pf_iret, pf_ald, pf_getf, pf_getf, pf_iret, pf_ald, pf_getf, pf_getf, pf_iret, pf_ald, pf_getf, pf_callV, pf_iret, pf_ald, pf_getf, pf_iret, pf_ald, pf_getf, pf_iret, pf_ald, pf_getf, pf_ald, pf_getf, pf_getf, pf_callV, pf_iret, pf_ald, pf_getf, pf_ald, pf_getf, pf_getf, pf_callV, pf_iret, pf_ald, pf_getf, pf_getf, pf_iret, pf_ald, pf_getf, pf_getf, pf_iret, pf_ald, pf_getf, pf_getf, pf_iret, pf_ald, pf_getf, pf_iret, pf_push, pf_iret, trivial⟩
set_option maxRecDepth 100000 in
theorem F_46 : pAll pFo 0 C_46 := ⟨pf_ild, pf_if, pf_ild, pf_ald, pf_getf, pf_getf, pf_if2, pf_none, pf_dup, pf_none, pf_none, pf_none, pf_ald, pf_getf, pf_getf, pf_ild, pf_callS, pf_iret, trivial⟩
set_option maxRecDepth 100000 in
theorem F_47 : pAll pFo 0 C_47 := ⟨pf_ild, pf_if, pf_ild, pf_ald, pf_len, pf_if2, pf_ald, pf_ild, pf_get, pf_goto, pf_push, pf_iret, trivial⟩
set_option maxRecDepth 100000 in
theorem F_48 : pAll pFo 0 C_48 := ⟨pf_push, pf_ist, pf_ild, pf_ald, pf_len, pf_if2, pf_ild, pf_ald, pf_len, pf_if2, pf_ald, pf_ild, pf_ald, pf_ild, pf_get, pf_set, pf_inc, pf_goto, pf_vret, trivial⟩
set_option maxRecDepth 100000 in
theorem F_49 : pAll pFo 0 C_49 := ⟨pf_ild, pf_ild, pf_bin, pf_push, pf_bin, pf_push, pf_if2, pf_push, pf_goto, pf_push, pf_zret, trivial⟩
set_option maxRecDepth 100000 in
theorem F_50 : pAll pFo 0 C_50 := ⟨pf_ild, pf_if, pf_ild, pf_ald, pf_getf, pf_len, pf_if2, pf_ald, pf_getf, pf_ild, pf_getq, pf_goto, pf_push, pf_aret, trivial⟩
set_option maxRecDepth 100000 in
theorem F_51 : pAll pFo 0 C_51 := ⟨pf_ald, pf_getf, pf_ild, pf_callV, pf_if, pf_ald, pf_getf, pf_ild, pf_callV, pf_if, pf_push, pf_iret, pf_ald, pf_getf, pf_ild, pf_ald, pf_ild, pf_callS, pf_ild, pf_callV, pf_ist, pf_ild, pf_if, pf_push, pf_iret, pf_ild, pf_ild, pf_bin, pf_ald, pf_getf, pf_if2, pf_push, pf_goto, pf_ild, pf_iret, trivial⟩
set_option maxRecDepth 100000 in
theorem F_52 : pAll pFo 0 C_52 := ⟨pf_ald, pf_getf, pf_ild, pf_callV, pf_if, pf_ald, pf_getf, pf_ild, pf_ald, pf_getf, pf_getf, pf_ild, pf_get, pf_ald, pf_getf, pf_callV, pf_ald, pf_getf, pf_getf, pf_ild, pf_ild, pf_set, pf_ald, pf_dup, pf_getf, pf_ild, pf_bin, pf_puti, pf_vret, trivial⟩
set_option maxRecDepth 100000 in
theorem F_53 : pAll pFo 0 C_53 := ⟨pf_ald, pf_dup, pf_getf, pf_push, pf_bin, pf_puti, pf_ald, pf_push, pf_puti, pf_ald, pf_getf, pf_callV, pf_push, pf_iret, trivial⟩
set_option maxRecDepth 100000 in
theorem F_54 : pAll pFo 0 C_54 := ⟨pf_ald, pf_getf, pf_push, pf_callV, pf_ald, pf_getf, pf_getf, pf_if, pf_push, pf_iret, pf_ald, pf_callV, pf_push, pf_ist, pf_ild, pf_push, pf_if2, pf_ald, pf_getf, pf_callV, pf_if, pf_ald, pf_getf, pf_push, pf_callV, pf_ald, pf_callV, pf_inc, pf_goto, pf_ald, pf_getf, pf_callV, pf_iret, trivial⟩
set_option maxRecDepth 100000 in
theorem F_55 : pAll pFo 0 C_55 := ⟨pf_ald, pf_getf, pf_push, pf_push, pf_callV, pf_pop, pf_ald, pf_getf, pf_push, pf_callV, pf_ald, pf_getf, pf_push, pf_push, pf_callV, pf_pop, pf_vret, trivial⟩
set_option maxRecDepth 100000 in
theorem F_56 : pAll pFo 0 C_56 := ⟨pf_ald, pf_getf, pf_ald, pf_getf, pf_getf, pf_callV, pf_push, pf_ist, pf_ild, pf_ald, pf_getf, pf_getf, pf_if2, pf_ald, pf_getf, pf_push, pf_ald, pf_getf, pf_getf, pf_callV, pf_pop, pf_inc, pf_goto, pf_ald, pf_getf, pf_callV, pf_iret, trivial⟩
set_option maxRecDepth 100000 in
theorem F_57 : pAll pFo 0 C_57 := ⟨pf_ald, pf_getf, pf_if, pf_ald, pf_getf, pf_ald, pf_getf, pf_getf, pf_if2, pf_push, pf_goto, pf_push, pf_zret, trivial⟩
set_option maxRecDepth 100000 in
theorem F_58 : pAll pFo 0 C_58 := ⟨pf_push, pf_ist, pf_ild, pf_ald, pf_getf, pf_getf, pf_if2, pf_ald, pf_getf, pf_ald, pf_getf, pf_getf, pf_ald, pf_getf, pf_getf, pf_ild, pf_get, pf_callS, pf_callV, pf_inc, pf_goto, pf_vret, trivial⟩
set_option maxRecDepth 100000 in
theorem F_59 : pAll pFo 0 C_59 := ⟨pf_ald, pf_getf, pf_ald, pf_getf, pf_ald, pf_getf, pf_callV, pf_callV, pf_ald, pf_getf, pf_ild, pf_ild, pf_callV, pf_push, pf_ist, pf_ild, pf_ald, pf_getf, pf_getf, pf_if2, pf_push, pf_ist, pf_ild, pf_ald, pf_getf, pf_getf, pf_if2, pf_ald, pf_getf, pf_ild, pf_ald, pf_getf, pf_getf, pf_ild, pf_get, pf_ild, pf_callV, pf_ist, pf_ald, pf_getf, pf_ald, pf_getf, pf_getf, pf_ild, pf_get, pf_ild, pf_ild, pf_if, pf_push, pf_goto, pf_ild, pf_un, pf_callV, pf_inc, pf_goto, pf_inc, pf_goto, pf_ald, pf_getf, pf_callV, pf_if, pf_ald, pf_getf, pf_getf, pf_push, pf_if2, pf_push, pf_iret, pf_ald, pf_getf, pf_callV, pf_ald, pf_callV, pf_ald, pf_getf, pf_getf, pf_un, pf_iret, trivial⟩
set_option maxRecDepth 100000 in
theorem F_60 : pAll pFo 0 C_60 := ⟨pf_ald, pf_getf, pf_ald, pf_getf, pf_ald, pf_getf, pf_callV, pf_callV, pf_ald, pf_getf, pf_ild, pf_ild, pf_un, pf_callV, pf_push, pf_ist, pf_ild, pf_ald, pf_getf, pf_getf, pf_if2, pf_ald, pf_getf, pf_ild, pf_ild, pf_ild, pf_ald, pf_getf, pf_ild, pf_callV, pf_bin, pf_callV, pf_inc, pf_goto, pf_ald, pf_getf, pf_callV, pf_zret, trivial⟩
set_option maxRecDepth 100000 in
theorem F_61 : pAll pFo 0 C_61 := ⟨pf_ald, pf_callV, pf_if, pf_push, pf_iret, pf_ald, pf_getf, pf_ald, pf_getf, pf_callV, pf_if, pf_ald, pf_getf, pf_callV, pf_ald, pf_getf, pf_push, pf_callV, pf_push, pf_iret, pf_ald, pf_getf, pf_callV, pf_if, pf_ald, pf_getf, pf_ald, pf_getf, pf_ald, pf_getf, pf_callV, pf_if, pf_push, pf_iret, pf_ald, pf_getf, pf_ald, pf_getf, pf_ald, pf_getf, pf_callV, pf_if, pf_push, pf_goto, pf_push, pf_iret, trivial⟩
set_option maxRecDepth 100000 in
theorem F_62 : pAll pFo 0 C_62 := ⟨pf_ald, pf_getf, pf_ald, pf_getf, pf_callS, pf_ald, pf_getf, pf_ald, pf_getf, pf_callS, pf_ald, pf_getf, pf_ald, pf_getf, pf_callS, pf_ald, pf_getf, pf_ald, pf_getf, pf_callS, pf_ald, pf_getf, pf_ald, pf_getf, pf_callS, pf_ald, pf_getf, pf_ald, pf_getf, pf_callS, pf_ald, pf_getf, pf_ald, pf_getf, pf_callS, pf_ald, pf_getf, pf_ald, pf_getf, pf_callS, pf_ald, pf_getf, pf_ald, pf_getf, pf_callS, pf_ald, pf_ald, pf_getf, pf_puti, pf_ald, pf_ald, pf_getf, pf_puti, pf_ald, pf_ald, pf_getf, pf_puti, pf_ald, pf_ald, pf_getf, pf_puti, pf_vret, trivial⟩
set_option maxRecDepth 100000 in
theorem F_63 : pAll pFo 0 C_63 := ⟨pf_ild, pf_if, pf_ild, pf_ald, pf_getf, pf_if2, pf_push, pf_goto, pf_push, pf_zret, trivial⟩
set_option maxRecDepth 100000 in
theorem F_64 : pAll pFo 0 C_64 := ⟨pf_ild, pf_if, pf_ild, pf_ald, pf_getf, pf_if2, pf_push, pf_goto, pf_push, pf_zret, trivial⟩
set_option maxRecDepth 100000 in
theorem F_65 : pAll pFo 0 C_65 := ⟨pf_ald, pf_ild, pf_callV, pf_if, pf_ald, pf_ild, pf_callV, pf_if, pf_ild, pf_ild, pf_if2, pf_push, pf_goto, pf_push, pf_zret, trivial⟩
set_option maxRecDepth 100000 in
theorem F_66 : pAll pFo 0 C_66 := ⟨pf_push, pf_ald, pf_getf, pf_bin, pf_push, pf_bin, pf_iret, trivial⟩
set_option maxRecDepth 100000 in
theorem F_67 : pAll pFo 0 C_67 := ⟨pf_push, pf_ald, pf_getf, pf_bin, pf_push, pf_bin, pf_iret, trivial⟩
set_option maxRecDepth 100000 in
theorem F_68 : pAll pFo 0 C_68 := ⟨pf_push, pf_ald, pf_getf, pf_bin, pf_push, pf_bin, pf_iret, trivial⟩
set_option maxRecDepth 100000 in
theorem F_69 : pAll pFo 0 C_69 := ⟨pf_push, pf_ald, pf_getf, pf_bin, pf_push, pf_bin, pf_iret, trivial⟩
set_option maxRecDepth 100000 in
theorem F_70 : pAll pFo 0 C_70 := ⟨pf_ald, pf_getf, pf_if, pf_ald, pf_getf, pf_push, pf_if2, pf_ald, pf_getf, pf_ald, pf_getf, pf_ild, pf_set, pf_ald, pf_dup, pf_getf, pf_push, pf_bin, pf_puti, pf_vret, trivial⟩
set_option maxRecDepth 100000 in
theorem F_71 : pAll pFo 0 C_71 := ⟨pf_ald, pf_getf, pf_if, pf_ald, pf_getf, pf_push, pf_if2, pf_ald, pf_getf, pf_ald, pf_getf, pf_ild, pf_set, pf_ald, pf_getf, pf_ald, pf_getf, pf_ild, pf_set, pf_ald, pf_getf, pf_ald, pf_getf, pf_ild, pf_set, pf_ald, pf_getf, pf_ald, pf_getf, pf_ild, pf_set, pf_ald, pf_dup, pf_getf, pf_push, pf_bin, pf_puti, pf_vret, trivial⟩
set_option maxRecDepth 100000 in
theorem F_72 : pAll pFo 0 C_72 := ⟨pf_ald, pf_getf, pf_if, pf_ald, pf_getf, pf_push, pf_if2, pf_ald, pf_getf, pf_ald, pf_getf, pf_ild, pf_set, pf_ald, pf_dup, pf_getf, pf_push, pf_bin, pf_puti, pf_vret, trivial⟩
set_option maxRecDepth 100000 in
theorem F_73 : pAll pFo 0 C_73 := ⟨pf_ald, pf_ild, pf_ild, pf_callV, pf_if, pf_ald, pf_getf, pf_ild, pf_push, pf_bin, pf_ild, pf_bin, pf_ild, pf_set, pf_ald, pf_getf, pf_ild, pf_push, pf_bin, pf_ild, pf_bin, pf_ild, pf_set, pf_vret, trivial⟩
set_option maxRecDepth 100000 in
theorem F_74 : pAll pFo 0 C_74 := ⟨pf_ald, pf_ild, pf_ild, pf_callV, pf_if, pf_ald, pf_getf, pf_ild, pf_push, pf_bin, pf_ild, pf_bin, pf_get, pf_goto, pf_push, pf_iret, trivial⟩
set_option maxRecDepth 100000 in
theorem F_75 : pAll pFo 0 C_75 := ⟨pf_push, pf_ist, pf_push, pf_ist, pf_ild, pf_ald, pf_getf, pf_if2, pf_ild, pf_ald, pf_ild, pf_push, pf_callV, pf_callS, pf_bin, pf_ist, pf_inc, pf_goto, pf_ild, pf_push, pf_div, pf_iret, trivial⟩
set_option maxRecDepth 100000 in
theorem F_76 : pAll pFo 0 C_76 := ⟨pf_push, pf_ist, pf_push, pf_ist, pf_ild, pf_ald, pf_getf, pf_if2, pf_ild, pf_ild, pf_if2, pf_ild, pf_ild, pf_ild, pf_bin, pf_bin, pf_goto, pf_push, pf_ist, pf_ild, pf_if, pf_ild, pf_un, pf_goto, pf_ild, pf_push, pf_if2, pf_ild, pf_un, pf_goto, pf_ild, pf_ist, pf_ald, pf_getf, pf_ild, pf_push, pf_push, pf_ild, pf_mm, pf_mm, pf_set, pf_ild, pf_ald, pf_getf, pf_ild, pf_get, pf_bin, pf_ist, pf_inc, pf_goto, pf_ild, pf_iret, trivial⟩
set_option maxRecDepth 100000 in
theorem F_77 : pAll pFo 0 C_77 := ⟨pf_push, pf_ist, pf_push, pf_ist, pf_ild, pf_ald, pf_getf, pf_if2, pf_ald, pf_ild, pf_ild, pf_callV, pf_ild, pf_if2, pf_ild, pf_push, pf_ild, pf_bin, pf_bin, pf_ist, pf_inc, pf_goto, pf_ild, pf_iret, trivial⟩
set_option maxRecDepth 100000 in
theorem F_78 : pAll pFo 0 C_78 := ⟨pf_ild, pf_ist, pf_push, pf_ist, pf_ild, pf_ald, pf_getf, pf_len, pf_if2, pf_ild, pf_ild, pf_push, pf_div, pf_callS, pf_if, pf_ald, pf_getf, pf_ild, pf_get, pf_ild, pf_if2, pf_ild, pf_push, pf_ild, pf_push, pf_div, pf_bin, pf_bin, pf_ist, pf_inc, pf_goto, pf_ild, pf_iret, trivial⟩
set_option maxRecDepth 100000 in
theorem F_79 : pAll pFo 0 C_79 := ⟨pf_ald, pf_ild, pf_callV, pf_if, pf_push, pf_ild, pf_bin, pf_goto, pf_push, pf_ist, pf_push, pf_ist, pf_ild, pf_ald, pf_getf, pf_if2, pf_ald, pf_ild, pf_ild, pf_callV, pf_ist, pf_inc, pf_goto, pf_ild, pf_iret, trivial⟩
set_option maxRecDepth 100000 in
theorem F_80 : pAll pFo 0 C_80 := ⟨pf_ald, pf_ild, pf_callV, pf_if, pf_ald, pf_ild, pf_callV, pf_if, pf_push, pf_iret, pf_push, pf_ild, pf_bin, pf_ist, pf_push, pf_ist, pf_ild, pf_ald, pf_getf, pf_if2, pf_ild, pf_ild, pf_callS, pf_if, pf_ild, pf_iret, pf_ald, pf_ild, pf_ild, pf_callV, pf_ist, pf_inc, pf_goto, pf_push, pf_iret, trivial⟩
set_option maxRecDepth 100000 in
theorem F_81 : pAll pFo 0 C_81 := ⟨pf_push, pf_ist, pf_ild, pf_ald, pf_getf, pf_if2, pf_ald, pf_ild, pf_ild, pf_callV, pf_ild, pf_if2, pf_ald, pf_ild, pf_ild, pf_ild, pf_callV, pf_ild, pf_if2, pf_ild, pf_iret, pf_inc, pf_goto, pf_push, pf_iret, trivial⟩
set_option maxRecDepth 100000 in
theorem F_82 : pAll pFo 0 C_82 := ⟨pf_ald, pf_ild, pf_callV, pf_if, pf_push, pf_iret, pf_ald, pf_ald, pf_getf, pf_ild, pf_get, pf_ild, pf_ild, pf_callV, pf_ist, pf_ild, pf_if, pf_push, pf_goto, pf_ild, pf_ald, pf_getf, pf_ild, pf_get, pf_bin, pf_iret, trivial⟩
set_option maxRecDepth 100000 in
theorem F_83 : pAll pFo 0 C_83 := ⟨pf_push, pf_ist, pf_push, pf_ist, pf_ild, pf_ald, pf_getf, pf_if2, pf_ald, pf_ild, pf_ald, pf_getf, pf_ild, pf_get, pf_ald, pf_ild, pf_callS, pf_callV, pf_ist, pf_ild, pf_if, pf_push, pf_iret, pf_ild, pf_ild, pf_bin, pf_ist, pf_inc, pf_goto, pf_ild, pf_iret, trivial⟩
set_option maxRecDepth 100000 in
theorem F_84 : pAll pFo 0 C_84 := ⟨pf_ald, pf_ild, pf_ild, pf_callV, pf_ist, pf_ald, pf_ild, pf_ild, pf_push, pf_callV, pf_push, pf_ist, pf_push, pf_ist, pf_ild, pf_ald, pf_getf, pf_if2, pf_ild, pf_ald, pf_ald, pf_getf, pf_ild, pf_get, pf_ald, pf_getf, pf_ild, pf_get, pf_ild, pf_callV, pf_if, pf_push, pf_goto, pf_push, pf_bin, pf_ist, pf_inc, pf_goto, pf_ald, pf_ild, pf_ild, pf_ild, pf_callV, pf_ild, pf_iret, trivial⟩
set_option maxRecDepth 100000 in
theorem F_85 : pAll pFo 0 C_85 := ⟨pf_push, pf_ist, pf_ild, pf_ald, pf_getf, pf_if2, pf_ald, pf_getf, pf_ild, pf_get, pf_ald, pf_ild, pf_callS, pf_if2, pf_push, pf_zret, pf_inc, pf_goto, pf_push, pf_zret, trivial⟩
set_option maxRecDepth 100000 in
theorem F_86 : pAll pFo 0 C_86 := ⟨pf_push, pf_ist, pf_push, pf_ist, pf_ild, pf_ald, pf_getf, pf_if2, pf_ald, pf_ild, pf_callS, pf_ild, pf_if2, pf_ild, pf_push, pf_ild, pf_bin, pf_bin, pf_ist, pf_inc, pf_goto, pf_ild, pf_iret, trivial⟩
set_option maxRecDepth 100000 in
theorem F_87 : pAll pFo 0 C_87 := ⟨pf_ald, pf_ald, pf_ild, pf_ald, pf_callV, pf_callV, pf_iret, trivial⟩
set_option maxRecDepth 100000 in
theorem F_88 : pAll pFo 0 C_88 := ⟨pf_push, pf_ist, pf_push, pf_ist, pf_ild, pf_ald, pf_getf, pf_if2, pf_ald, pf_ild, pf_ald, pf_callV, pf_ald, pf_getf, pf_ild, pf_get, pf_if2, pf_ild, pf_push, pf_ild, pf_bin, pf_bin, pf_ist, pf_inc, pf_goto, pf_ild, pf_iret, trivial⟩
set_option maxRecDepth 100000 in
theorem F_89 : pAll pFo 0 C_89 := ⟨pf_push, pf_ist, pf_push, pf_ist, pf_ild, pf_ald, pf_getf, pf_if2, pf_ald, pf_ald, pf_getf, pf_ild, pf_get, pf_ald, pf_callV, pf_if, pf_ild, pf_push, pf_ild, pf_bin, pf_bin, pf_ist, pf_inc, pf_goto, pf_ild, pf_iret, trivial⟩
set_option maxRecDepth 100000 in
theorem F_90 : pAll pFo 0 C_90 := ⟨pf_push, pf_ist, pf_ild, pf_ald, pf_getf, pf_if2, pf_ald, pf_ild, pf_ald, pf_callV, pf_ild, pf_bin, pf_ist, pf_ild, pf_if, pf_ild, pf_ild, pf_if2, pf_push, pf_zret, pf_inc, pf_goto, pf_push, pf_zret, trivial⟩
set_option maxRecDepth 100000 in
theorem F_91 : pAll pFo 0 C_91 := ⟨pf_ald, pf_ald, pf_callV, pf_ald, pf_ald, pf_callV, pf_bin, pf_if, pf_push, pf_goto, pf_push, pf_zret, trivial⟩
set_option maxRecDepth 100000 in
theorem F_92 : pAll pFo 0 C_92 := ⟨pf_push, pf_ist, pf_push, pf_ist, pf_ild, pf_ald, pf_getf, pf_if2, pf_ild, pf_push, pf_if2, pf_ild, pf_ald, pf_getf, pf_bin, pf_ist, pf_inc, pf_goto, pf_ild, pf_push, pf_if2, pf_push, pf_goto, pf_push, pf_zret, trivial⟩
set_option maxRecDepth 100000 in
theorem F_93 : pAll pFo 0 C_93 := ⟨pf_push, pf_ist, pf_push, pf_ist, pf_ild, pf_ald, pf_getf, pf_if2, pf_ald, pf_getf, pf_ild, pf_get, pf_ild, pf_callS, pf_if, pf_ild, pf_push, pf_ild, pf_bin, pf_bin, pf_ist, pf_inc, pf_goto, pf_ild, pf_iret, trivial⟩
set_option maxRecDepth 100000 in
theorem F_94 : pAll pFo 0 C_94 := ⟨pf_push, pf_ist, pf_push, pf_ist, pf_ild, pf_ald, pf_getf, pf_if2, pf_ald, pf_getf, pf_ild, pf_get, pf_ild, pf_bin, pf_if, pf_ild, pf_push, pf_ild, pf_bin, pf_bin, pf_ist, pf_inc, pf_goto, pf_ild, pf_iret, trivial⟩
set_option maxRecDepth 100000 in
theorem F_95 : pAll pFo 0 C_95 := ⟨pf_push, pf_ist, pf_ild, pf_ald, pf_getf, pf_if2, pf_ald, pf_getf, pf_ild, pf_dup2, pf_get, pf_push, pf_ild, pf_bin, pf_push, pf_bin, pf_bin, pf_set, pf_inc, pf_goto, pf_vret, trivial⟩
set_option maxRecDepth 100000 in
theorem F_96 : pAll pFo 0 C_96 := ⟨pf_push, pf_ild, pf_bin, pf_ist, pf_push, pf_ist, pf_ild, pf_ald, pf_getf, pf_if2, pf_push, pf_ist, pf_ild, pf_ald, pf_getf, pf_if2, pf_ild, pf_ild, pf_callS, pf_if, pf_ald, pf_getf, pf_ild, pf_get, pf_ild, pf_bin, pf_if, pf_ild, pf_ald, pf_getf, pf_ild, pf_get, pf_ild, pf_bin, pf_bin, pf_ist, pf_inc, pf_goto, pf_inc, pf_goto, pf_ild, pf_iret, trivial⟩
set_option maxRecDepth 100000 in
theorem F_97 : pAll pFo 0 C_97 := ⟨pf_push, pf_ist, pf_ild, pf_ist, pf_push, pf_ist, pf_ild, pf_ald, pf_getf, pf_if2, pf_ild, pf_ild, pf_callS, pf_if, pf_ild, pf_ald, pf_ild, pf_ild, pf_ild, pf_callV, pf_push, pf_bin, pf_bin, pf_ist, pf_inc, pf_inc, pf_goto, pf_ild, pf_iret, trivial⟩
set_option maxRecDepth 100000 in
theorem F_98 : pAll pFo 0 C_98 := ⟨pf_ald, pf_push, pf_puti, pf_ald, pf_callV, pf_ist, pf_push, pf_ist, pf_ild, pf_ald, pf_getf, pf_if2, pf_ild, pf_ild, pf_callS, pf_if, pf_ald, pf_ild, pf_ald, pf_callV, pf_ald, pf_callV, pf_callV, pf_ist, pf_ild, pf_ild, pf_push, pf_bin, pf_bin, pf_ist, pf_ald, pf_ild, pf_callV, pf_inc, pf_goto, pf_vret, trivial⟩
set_option maxRecDepth 100000 in
theorem F_99 : pAll pFo 0 C_99 := ⟨pf_ald, pf_getf, pf_if, pf_ald, pf_getf, pf_push, pf_if2, pf_ald, pf_getf, pf_ald, pf_getf, pf_ild, pf_set, pf_push, pf_ist, pf_ild, pf_ald, pf_getf, pf_if2, pf_ild, pf_ild, pf_callS, pf_if, pf_ald, pf_getf, pf_ild, pf_ald, pf_getf, pf_set, pf_inc, pf_goto, pf_ald, pf_dup, pf_getf, pf_push, pf_bin, pf_puti, pf_vret, trivial⟩
set_option maxRecDepth 100000 in
theorem F_100 : pAll pFo 0 C_100 := ⟨pf_ald, pf_getf, pf_ild, pf_callS, pf_callS, pf_iret, trivial⟩
set_option maxRecDepth 100000 in
theorem F_101 : pAll pFo 0 C_101 := ⟨pf_ald, pf_ald, pf_getf, pf_ild, pf_callS, pf_callV, pf_iret, trivial⟩
set_option maxRecDepth 100000 in
theorem F_102 : pAll pFo 0 C_102 := ⟨pf_push, pf_ist, pf_push, pf_ist, pf_ild, pf_ald, pf_getf, pf_if2, pf_ild, pf_ild, pf_ild, pf_callS, pf_if, pf_ald, pf_getf, pf_ild, pf_get, pf_goto, pf_push, pf_bin, pf_ist, pf_inc, pf_goto, pf_ild, pf_iret, trivial⟩
set_option maxRecDepth 100000 in
theorem F_103 : pAll pFo 0 C_103 := ⟨pf_push, pf_ist, pf_push, pf_ist, pf_ild, pf_ald, pf_getf, pf_if2, pf_ald, pf_getf, pf_ild, pf_get, pf_ild, pf_if2, pf_ild, pf_push, pf_ild, pf_bin, pf_bin, pf_ist, pf_inc, pf_goto, pf_ild, pf_iret, trivial⟩
set_option maxRecDepth 100000 in
theorem F_104 : pAll pFo 0 C_104 := ⟨pf_push, pf_ist, pf_push, pf_ist, pf_ild, pf_ald, pf_getf, pf_if2, pf_ild, pf_ild, pf_callS, pf_if, pf_ild, pf_ald, pf_getf, pf_ild, pf_get, pf_bin, pf_ist, pf_inc, pf_goto, pf_ild, pf_iret, trivial⟩
set_option maxRecDepth 100000 in
theorem F_105 : pAll pFo 0 C_105 := ⟨pf_push, pf_ist, pf_push, pf_ist, pf_ild, pf_ald, pf_getf, pf_if2, pf_ald, pf_ild, pf_callV, pf_ild, pf_bin, pf_if, pf_ild, pf_push, pf_ald, pf_getf, pf_ild, pf_get, pf_bin, pf_bin, pf_ist, pf_inc, pf_goto, pf_ild, pf_iret, trivial⟩
set_option maxRecDepth 100000 in
theorem F_106 : pAll pFo 0 C_106 := ⟨pf_ild, pf_callS, pf_ild, pf_callS, pf_bin, pf_ist, pf_ild, pf_if, pf_ild, pf_if, pf_push, pf_goto, pf_push, pf_zret, pf_ald, pf_ild, pf_callV, pf_ald, pf_ild, pf_callV, pf_bin, pf_ist, pf_ild, pf_if, pf_ild, pf_if, pf_push, pf_goto, pf_push, pf_goto, pf_ild, pf_ild, pf_if2, pf_push, pf_goto, pf_push, pf_zret, trivial⟩
set_option maxRecDepth 100000 in
theorem F_107 : pAll pFo 0 C_107 := ⟨pf_ald, pf_getf, pf_push, pf_callV, pf_ald, pf_ald, pf_callV, pf_push, pf_ist, pf_push, pf_ist, pf_ild, pf_push, pf_if2, pf_ald, pf_getf, pf_callV, pf_if, pf_ald, pf_getf, pf_push, pf_callV, pf_ald, pf_ald, pf_callV, pf_inc, pf_inc, pf_goto, pf_ald, pf_getf, pf_callV, pf_ist, pf_ild, pf_push, pf_if2, pf_ild, pf_goto, pf_push, pf_ild, pf_bin, pf_iret, trivial⟩
set_option maxRecDepth 100000 in
theorem F_108 : pAll pFo 0 C_108 := ⟨pf_ald, pf_getf, pf_callV, pf_ist, pf_ild, pf_push, pf_if2, pf_ald, pf_getf, pf_push, pf_if2, pf_ald, pf_getf, pf_dup, pf_getf, pf_push, pf_bin, pf_puti, pf_ald, pf_ald, pf_getf, pf_callV, pf_callV, pf_goto, pf_ild, pf_push, pf_if2, pf_ald, pf_getf, pf_dup, pf_getf, pf_push, pf_bin, pf_puti, pf_ald, pf_ald, pf_callV, pf_goto, pf_ild, pf_push, pf_if2, pf_ald, pf_getf, pf_push, pf_if2, pf_ald, pf_getf, pf_dup, pf_getf, pf_push, pf_bin, pf_puti, pf_ald, pf_ald, pf_ald, pf_getf, pf_callV, pf_callV, pf_goto, pf_ald, pf_getf, pf_callV, pf_if, pf_ald, pf_getf, pf_push, pf_if2, pf_ald, pf_ald, pf_callV, pf_goto, pf_ald, pf_getf, pf_ald, pf_getf, pf_getf, pf_callV, pf_vret, trivial⟩
set_option maxRecDepth 100000 in
theorem F_109 : pAll pFo 0 C_109 := ⟨pf_ald, pf_getf, pf_push, pf_ald, pf_getf, pf_callV, pf_ist, pf_ald, pf_getf, pf_push, pf_callV, pf_ald, pf_getf, pf_getf, pf_ist, pf_ald, pf_getf, pf_push, pf_ald, pf_getf, pf_callV, pf_ist, pf_ild, pf_ild, pf_if2, pf_ald, pf_getf, pf_ild, pf_callV, pf_ald, pf_getf, pf_push, pf_callV, pf_ald, pf_getf, pf_push, pf_push, pf_callV, pf_ist, pf_ald, pf_getf, pf_getf, pf_push, pf_if2, pf_ald, pf_ild, pf_ild, pf_ild, pf_callV, pf_vret, trivial⟩
set_option maxRecDepth 100000 in
theorem F_110 : pAll pFo 0 C_110 := ⟨pf_ald, pf_getf, pf_callV, pf_ist, pf_ald, pf_getf, pf_push, pf_callV, pf_ald, pf_getf, pf_push, pf_push, pf_callV, pf_ist, pf_ald, pf_getf, pf_push, pf_callV, pf_ald, pf_getf, pf_push, pf_push, pf_callV, pf_ist, pf_ald, pf_getf, pf_push, pf_callV, pf_ald, pf_getf, pf_push, pf_ald, pf_getf, pf_callV, pf_ist, pf_ald, pf_getf, pf_getf, pf_push, pf_if2, pf_ald, pf_ild, pf_ild, pf_ild, pf_ild, pf_callV, pf_vret, trivial⟩
set_option maxRecDepth 100000 in
theorem F_111 : pAll pFo 0 C_111 := ⟨pf_ald, pf_getf, pf_push, pf_ild, pf_callV, pf_ist, pf_ild, pf_if, pf_push, pf_goto, pf_push, pf_ild, pf_bin, pf_ist, pf_push, pf_ist, pf_ild, pf_push, pf_if2, pf_ald, pf_getf, pf_callV, pf_if, pf_ald, pf_getf, pf_callV, pf_push, pf_if2, pf_ald, pf_getf, pf_ild, pf_push, pf_bin, pf_ild, pf_callV, pf_ist, pf_ild, pf_ild, pf_if, pf_push, pf_goto, pf_push, pf_ild, pf_bin, pf_bin, pf_ist, pf_inc, pf_goto, pf_ild, pf_iret, trivial⟩
set_option maxRecDepth 100000 in
theorem F_112 : pAll pFo 0 C_112 := ⟨pf_ald, pf_ald, pf_getf, pf_puti, pf_ald, pf_push, pf_puti, pf_ald, pf_ald, pf_ald, pf_callV, pf_callV, pf_push, pf_ist, pf_ild, pf_push, pf_if2, pf_ald, pf_callV, pf_if, pf_ald, pf_getf, pf_push, pf_if2, pf_push, pf_zret, pf_ald, pf_getf, pf_ald, pf_getf, pf_push, pf_set, pf_push, pf_ist, pf_ild, pf_ald, pf_getf, pf_if2, pf_ald, pf_getf, pf_ald, pf_getf, pf_dup2, pf_get, pf_ald, pf_getf, pf_ild, pf_get, pf_push, pf_ild, pf_bin, pf_bin, pf_bin, pf_set, pf_inc, pf_goto, pf_ald, pf_dup, pf_getf, pf_push, pf_bin, pf_puti, pf_inc, pf_goto, pf_push, pf_zret, trivial⟩
set_option maxRecDepth 100000 in
theorem F_113 : pAll pFo 0 C_113 := ⟨pf_ald, pf_ald, pf_ald, pf_callV, pf_if, pf_ald, pf_ald, pf_ald, pf_callV, pf_goto, pf_push, pf_puti, pf_ald, pf_getf, pf_push, pf_if2, pf_push, pf_zret, pf_ald, pf_ald, pf_callV, pf_push, pf_ist, pf_ild, pf_ald, pf_getf, pf_if2, pf_ald, pf_getf, pf_ild, pf_ald, pf_ald, pf_ild, pf_callV, pf_set, pf_inc, pf_goto, pf_push, pf_zret, trivial⟩
set_option maxRecDepth 100000 in
theorem F_114 : pAll pFo 0 C_114 := ⟨pf_ild, pf_if, pf_ild, pf_ald, pf_getf, pf_if2, pf_ald, pf_getf, pf_ild, pf_get, pf_push, pf_ild, pf_bin, pf_bin, pf_push, pf_bin, pf_goto, pf_push, pf_iret, trivial⟩
set_option maxRecDepth 100000 in
theorem F_115 : pAll pFo 0 C_115 := ⟨pf_push, pf_ist, pf_ild, pf_ald, pf_getf, pf_if2, pf_push, pf_ist, pf_push, pf_ist, pf_ild, pf_ald, pf_getf, pf_if2, pf_ild, pf_ald, pf_ild, pf_ald, pf_getf, pf_ild, pf_get, pf_callV, pf_ald, pf_ild, pf_callS, pf_if2, pf_push, pf_goto, pf_push, pf_bin, pf_ist, pf_inc, pf_goto, pf_ild, pf_ald, pf_getf, pf_if2, pf_ild, pf_iret, pf_inc, pf_goto, pf_push, pf_iret, trivial⟩
set_option maxRecDepth 100000 in
theorem F_116 : pAll pFo 0 C_116 := ⟨pf_push, pf_ist, pf_ild, pf_ald, pf_getf, pf_len, pf_if2, pf_ald, pf_getf, pf_ild, pf_push, pf_set, pf_inc, pf_goto, pf_push, pf_ist, pf_ild, pf_ald, pf_getf, pf_if2, pf_ald, pf_getf, pf_ild, pf_get, pf_push, pf_bin, pf_push, pf_bin, pf_ist, pf_push, pf_ist, pf_ild, pf_push, pf_if2, pf_ald, pf_ild, pf_ild, pf_push, pf_div, pf_ild, pf_push, pf_div, pf_callV, pf_ist, pf_ild, pf_if, pf_ild, pf_ild, pf_bin, pf_ald, pf_getf, pf_len, pf_if2, pf_ald, pf_getf, pf_ild, pf_ild, pf_bin, pf_dup2, pf_get, pf_ild, pf_if, pf_push, pf_goto, pf_ild, pf_bin, pf_set, pf_inc, pf_goto, pf_inc, pf_goto, pf_vret, trivial⟩
set_option maxRecDepth 100000 in
theorem F_117 : pAll pFo 0 C_117 := ⟨pf_push, pf_ist, pf_push, pf_ist, pf_ild, pf_ald, pf_getf, pf_if2, pf_ald, pf_ild, pf_ald, pf_getf, pf_ild, pf_get, pf_ald, pf_ild, pf_ald, pf_getf, pf_ild, pf_get, pf_callV, pf_callV, pf_ist, pf_ild, pf_ild, pf_if, pf_push, pf_goto, pf_ild, pf_bin, pf_ist, pf_inc, pf_goto, pf_ild, pf_iret, trivial⟩
set_option maxRecDepth 100000 in
theorem F_118 : pAll pFo 0 C_118 := ⟨pf_push, pf_ist, pf_push, pf_ist, pf_ild, pf_ald, pf_getf, pf_if2, pf_ild, pf_ald, pf_getf, pf_ild, pf_push, pf_bin, pf_ald, pf_ild, pf_ild, pf_callV, pf_bin, pf_push, pf_bin, pf_ald, pf_ild, pf_ild, pf_callV, pf_bin, pf_callS, pf_bin, pf_ist, pf_inc, pf_goto, pf_ild, pf_iret, trivial⟩
set_option maxRecDepth 100000 in
theorem F_119 : pAll pFo 0 C_119 := ⟨pf_push, pf_ist, pf_ild, pf_ald, pf_getf, pf_if2, pf_ald, pf_getf, pf_ild, pf_ild, pf_ald, pf_getf, pf_if2, pf_push, pf_goto, pf_push, pf_set, pf_ald, pf_getf, pf_ild, pf_push, pf_set, pf_inc, pf_goto, pf_push, pf_ist, pf_push, pf_ist, pf_ild, pf_ald, pf_getf, pf_if2, pf_ild, pf_if, pf_ald, pf_ald, pf_ild, pf_ild, pf_callV, pf_puti, pf_ald, pf_getf, pf_push, pf_if2, pf_ald, pf_ald, pf_getf, pf_ald, pf_getf, pf_get, pf_ald, pf_getf, pf_ald, pf_getf, pf_get, pf_bin, pf_puti, pf_ild, pf_push, pf_bin, pf_iret, pf_ald, pf_ild, pf_ild, pf_callV, pf_ist, pf_inc, pf_goto, pf_push, pf_iret, trivial⟩
set_option maxRecDepth 100000 in
theorem F_120 : pAll pFo 0 C_120 := ⟨pf_push, pf_ist, pf_push, pf_ist, pf_push, pf_ist, pf_ild, pf_ald, pf_getf, pf_if2, pf_ald, pf_getf, pf_ild, pf_get, pf_ild, pf_if2, pf_ald, pf_getf, pf_ild, pf_get, pf_ild, pf_if2, pf_ald, pf_getf, pf_ild, pf_get, pf_ald, pf_getf, pf_ild, pf_get, pf_bin, pf_ild, pf_if2, pf_ald, pf_getf, pf_ild, pf_get, pf_ald, pf_getf, pf_ild, pf_get, pf_bin, pf_ist, pf_ild, pf_ist, pf_inc, pf_goto, pf_ild, pf_iret, trivial⟩
set_option maxRecDepth 100000 in
theorem F_121 : pAll pFo 0 C_121 := ⟨pf_push, pf_ist, pf_push, pf_ist, pf_ild, pf_ald, pf_getf, pf_if2, pf_ald, pf_getf, pf_ild, pf_get, pf_push, pf_if2, pf_ald, pf_ild, pf_ild, pf_ild, pf_callV, pf_ist, pf_ild, pf_push, pf_if2, pf_ald, pf_getf, pf_ild, pf_ild, pf_push, pf_bin, pf_set, pf_ald, pf_getf, pf_ild, pf_ild, pf_set, pf_push, pf_ist, pf_inc, pf_goto, pf_ild, pf_zret, trivial⟩
set_option maxRecDepth 100000 in
theorem F_122 : pAll pFo 0 C_122 := ⟨pf_push, pf_ist, pf_push, pf_ist, pf_ild, pf_ald, pf_getf, pf_if2, pf_ald, pf_getf, pf_ild, pf_get, pf_ild, pf_if2, pf_ald, pf_ild, pf_ild, pf_callV, pf_ist, pf_ild, pf_ild, pf_if2, pf_ild, pf_ild, pf_ald, pf_getf, pf_ild, pf_get, pf_bin, pf_mm, pf_ist, pf_inc, pf_goto, pf_ild, pf_iret, trivial⟩
set_option maxRecDepth 100000 in
theorem F_123 : pAll pFo 0 C_123 := ⟨pf_push, pf_ist, pf_ild, pf_ald, pf_getf, pf_if2, pf_ald, pf_getf, pf_ild, pf_push, pf_set, pf_ald, pf_getf, pf_ild, pf_ald, pf_getf, pf_ild, pf_get, pf_set, pf_inc, pf_goto, pf_push, pf_ist, pf_ild, pf_ald, pf_getf, pf_if2, pf_ald, pf_callV, pf_ist, pf_ild, pf_push, pf_if2, pf_ild, pf_ald, pf_getf, pf_if2, pf_goto, pf_ald, pf_getf, pf_ild, pf_push, pf_set, pf_push, pf_ist, pf_ild, pf_ald, pf_getf, pf_if2, pf_ald, pf_getf, pf_ild, pf_get, pf_push, pf_if2, pf_ald, pf_getf, pf_ild, pf_ald, pf_getf, pf_ild, pf_get, pf_ald, pf_getf, pf_ild, pf_get, pf_ald, pf_ild, pf_ild, pf_callV, pf_mm, pf_mm, pf_set, pf_inc, pf_goto, pf_inc, pf_goto, pf_ald, pf_getf, pf_if, pf_ald, pf_getf, pf_ald, pf_getf, pf_if2, pf_ald, pf_getf, pf_ald, pf_getf, pf_get, pf_goto, pf_push, pf_iret, trivial⟩
set_option maxRecDepth 100000 in
theorem F_124 : pAll pFo 0 C_124 := ⟨pf_push, pf_ist, pf_push, pf_ist, pf_push, pf_ist, pf_ild, pf_ald, pf_getf, pf_if2, pf_ald, pf_getf, pf_ild, pf_get, pf_push, pf_if2, pf_ald, pf_getf, pf_ild, pf_get, pf_ild, pf_if2, pf_ald, pf_getf, pf_ild, pf_get, pf_ist, pf_ild, pf_ist, pf_inc, pf_goto, pf_ild, pf_iret, trivial⟩
set_option maxRecDepth 100000 in
theorem F_125 : pAll pFo 0 C_125 := ⟨pf_ald, pf_getf, pf_ald, pf_getf, pf_callS, pf_ald, pf_push, pf_putz, pf_ald, pf_ald, pf_getf, pf_puti, pf_ald, pf_ald, pf_getf, pf_puti, pf_ald, pf_ild, pf_puti, pf_ald, pf_ild, pf_puti, pf_vret, trivial⟩
set_option maxRecDepth 100000 in
theorem F_126 : pAll pFo 0 C_126 := ⟨pf_ald, pf_getf, pf_if, pf_ald, pf_getf, pf_ald, pf_getf, pf_if2, pf_ald, pf_getf, pf_ald, pf_getf, pf_if2, pf_push, pf_goto, pf_push, pf_zret, trivial⟩
set_option maxRecDepth 100000 in
theorem F_127 : pAll pFo 0 C_127 := ⟨pf_ald, pf_push, pf_puti, pf_vret, trivial⟩
set_option maxRecDepth 100000 in
theorem F_128 : pAll pFo 0 C_128 := ⟨pf_ald, pf_getf, pf_if, pf_ald, pf_getf, pf_ald, pf_getf, pf_len, pf_if2, pf_ald, pf_getf, pf_ald, pf_getf, pf_ild, pf_set, pf_ald, pf_dup, pf_getf, pf_push, pf_bin, pf_puti, pf_vret, trivial⟩
set_option maxRecDepth 100000 in
theorem F_129 : pAll pFo 0 C_129 := ⟨pf_ald, pf_push, pf_puti, pf_vret, trivial⟩
set_option maxRecDepth 100000 in
theorem F_130 : pAll pFo 0 C_130 := ⟨pf_ald, pf_getf, pf_push, pf_if2, pf_ald, pf_callV, pf_ald, pf_getf, pf_if, pf_ald, pf_getf, pf_push, pf_if2, pf_ald, pf_getf, pf_ald, pf_getf, pf_ild, pf_set, pf_ald, pf_getf, pf_ald, pf_getf, pf_ild, pf_set, pf_ald, pf_getf, pf_ald, pf_getf, pf_ild, pf_set, pf_ald, pf_dup, pf_getf, pf_push, pf_bin, pf_puti, pf_vret, trivial⟩
set_option maxRecDepth 100000 in
theorem F_131 : pAll pFo 0 C_131 := ⟨pf_push, pf_ist, pf_ild, pf_push, pf_if2, pf_ald, pf_getf, pf_ild, pf_push, pf_bin, pf_ald, pf_getf, pf_ild, pf_get, pf_set, pf_ald, pf_getf, pf_ild, pf_push, pf_bin, pf_ald, pf_getf, pf_ild, pf_get, pf_set, pf_ald, pf_getf, pf_ild, pf_push, pf_bin, pf_ald, pf_getf, pf_ild, pf_get, pf_set, pf_inc, pf_goto, pf_ald, pf_push, pf_puti, pf_vret, trivial⟩
set_option maxRecDepth 100000 in
theorem F_132 : pAll pFo 0 C_132 := ⟨pf_ald, pf_push, pf_puti, pf_ald, pf_push, pf_puti, pf_ald, pf_ald, pf_getf, pf_getf, pf_ild, pf_mm, pf_puti, pf_vret, trivial⟩
set_option maxRecDepth 100000 in
theorem F_133 : pAll pFo 0 C_133 := ⟨pf_ald, pf_getf, pf_push, pf_if2, pf_ald, pf_getf, pf_if, pf_ald, pf_getf, pf_ald, pf_getf, pf_if2, pf_ald, pf_getf, pf_ald, pf_getf, pf_getf, pf_len, pf_if2, pf_ald, pf_getf, pf_getf, pf_ald, pf_getf, pf_get, pf_goto, pf_push, pf_iret, trivial⟩
set_option maxRecDepth 100000 in
theorem F_134 : pAll pFo 0 C_134 := ⟨pf_ald, pf_getf, pf_push, pf_if2, pf_ald, pf_getf, pf_ald, pf_getf, pf_if2, pf_push, pf_goto, pf_push, pf_zret, trivial⟩
set_option maxRecDepth 100000 in
theorem F_135 : pAll pFo 0 C_135 := ⟨pf_ald, pf_getf, pf_push, pf_if2, pf_ald, pf_ild, pf_puti, pf_vret, trivial⟩
set_option maxRecDepth 100000 in
theorem F_136 : pAll pFo 0 C_136 := ⟨pf_ald, pf_getf, pf_push, pf_if2, pf_ald, pf_getf, pf_ald, pf_getf, pf_getf, pf_if2, pf_ald, pf_getf, pf_iret, pf_ald, pf_getf, pf_iret, trivial⟩
set_option maxRecDepth 100000 in
theorem F_137 : pAll pFo 0 C_137 := ⟨pf_ald, pf_getf, pf_push, pf_if2, pf_ald, pf_callV, pf_ild, pf_if2, pf_ald, pf_dup, pf_getf, pf_push, pf_bin, pf_puti, pf_goto, pf_ald, pf_ald, pf_getf, pf_callV, pf_vret, trivial⟩
set_option maxRecDepth 100000 in
theorem F_138 : pAll pFo 0 C_138 := ⟨pf_ald, pf_callV, pf_ist, pf_ild, pf_push, pf_if2, pf_ild, pf_push, pf_if2, pf_push, pf_goto, pf_push, pf_zret, trivial⟩
set_option maxRecDepth 100000 in
theorem F_139 : pAll pFo 0 C_139 := ⟨pf_ald, pf_ald, pf_callV, pf_push, pf_bin, pf_ild, pf_ild, pf_callV, pf_iret, trivial⟩
set_option maxRecDepth 100000 in
theorem F_140 : pAll pFo 0 C_140 := ⟨pf_ald, pf_ald, pf_callV, pf_push, pf_bin, pf_ild, pf_ild, pf_callV, pf_iret, trivial⟩
set_option maxRecDepth 100000 in
theorem F_141 : pAll pFo 0 C_141 := ⟨pf_ild, pf_ild, pf_if2, pf_ild, pf_ild, pf_if2, pf_ald, pf_ald, pf_getf, pf_callV, pf_push, pf_iret, pf_ald, pf_dup, pf_getf, pf_push, pf_bin, pf_puti, pf_ild, pf_iret, trivial⟩
set_option maxRecDepth 100000 in
theorem F_142 : pAll pFo 0 C_142 := ⟨pf_ald, pf_push, pf_push, pf_callV, pf_ist, pf_ald, pf_callV, pf_if, pf_ild, pf_push, pf_bin, pf_ald, pf_push, pf_push, pf_callV, pf_bin, pf_ist, pf_ild, pf_if, pf_ald, pf_ald, pf_getf, pf_push, pf_bin, pf_callV, pf_ild, pf_iret, trivial⟩
set_option maxRecDepth 100000 in
theorem F_143 : pAll pFo 0 C_143 := ⟨pf_ald, pf_push, pf_callV, pf_ald, pf_getf, pf_getf, pf_if, pf_ald, pf_ald, pf_callV, pf_pop, pf_ald, pf_callV, pf_iret, trivial⟩
set_option maxRecDepth 100000 in
theorem F_144 : pAll pFo 0 C_144 := ⟨pf_ald, pf_getf, pf_getf, pf_if, pf_ald, pf_ild, pf_callV, pf_if, pf_ald, pf_ild, pf_callV, pf_if, pf_push, pf_iret, pf_ald, pf_getf, pf_push, pf_ild, pf_set, pf_ald, pf_getf, pf_push, pf_ald, pf_getf, pf_ild, pf_get, pf_set, pf_ald, pf_getf, pf_push, pf_ald, pf_getf, pf_ild, pf_get, pf_set, pf_ald, pf_getf, pf_push, pf_ald, pf_getf, pf_ild, pf_get, pf_set, pf_ald, pf_getf, pf_push, pf_ald, pf_ild, pf_callV, pf_callS, pf_set, pf_ald, pf_getf, pf_push, pf_ild, pf_set, pf_ald, pf_getf, pf_push, pf_ald, pf_getf, pf_ild, pf_get, pf_set, pf_ald, pf_getf, pf_push, pf_ald, pf_ild, pf_push, pf_callV, pf_callS, pf_set, pf_ald, pf_getf, pf_push, pf_ald, pf_getf, pf_ild, pf_get, pf_ild, pf_if2, pf_push, pf_goto, pf_push, pf_set, pf_ald, pf_getf, pf_push, pf_callV, pf_push, pf_push, pf_ald, pf_ald, pf_getf, pf_callV, pf_mm, pf_mm, pf_iret, trivial⟩
set_option maxRecDepth 100000 in
theorem F_145 : pAll pFo 0 C_145 := ⟨pf_ald, pf_ald, pf_push, pf_callV, pf_ist, pf_ald, pf_callV, pf_if, pf_ald, pf_ald, pf_getf, pf_callV, pf_ild, pf_iret, trivial⟩
set_option maxRecDepth 100000 in
theorem F_146 : pAll pFo 0 C_146 := ⟨pf_ald, pf_ald, pf_ild, pf_callV, pf_ist, pf_ald, pf_callV, pf_ist, pf_ild, pf_push, pf_if2, pf_ild, pf_push, pf_if2, pf_ild, pf_push, pf_if2, pf_ild, pf_iret, pf_ald, pf_dup, pf_getf, pf_push, pf_bin, pf_puti, pf_ald, pf_ald, pf_ild, pf_callV, pf_ist, pf_ild, pf_push, pf_if2, pf_ild, pf_ild, pf_if2, pf_push, pf_goto, pf_push, pf_goto, pf_ild, pf_push, pf_if2, pf_ild, pf_ild, pf_if2, pf_push, pf_goto, pf_push, pf_goto, pf_ild, pf_ild, pf_if2, pf_push, pf_goto, pf_push, pf_ist, pf_ild, pf_if, pf_push, pf_goto, pf_push, pf_iret, trivial⟩
set_option maxRecDepth 100000 in
theorem F_147 : pAll pFo 0 C_147 := ⟨pf_ald, pf_ald, pf_ild, pf_callV, pf_ist, pf_push, pf_ist, pf_ild, pf_push, pf_if2, pf_ald, pf_callV, pf_ist, pf_ild, pf_push, pf_if2, pf_ild, pf_push, pf_if2, pf_goto, pf_ald, pf_dup, pf_getf, pf_push, pf_bin, pf_puti, pf_ald, pf_ald, pf_ild, pf_callV, pf_ist, pf_ild, pf_push, pf_if2, pf_ild, pf_ild, pf_bin, pf_goto, pf_ild, pf_ild, pf_bin, pf_ist, pf_inc, pf_goto, pf_ild, pf_iret, trivial⟩
set_option maxRecDepth 100000 in
theorem F_148 : pAll pFo 0 C_148 := ⟨pf_ald, pf_ald, pf_ild, pf_callV, pf_ist, pf_push, pf_ist, pf_ild, pf_push, pf_if2, pf_ald, pf_callV, pf_ist, pf_ild, pf_push, pf_if2, pf_ild, pf_push, pf_if2, pf_goto, pf_ald, pf_dup, pf_getf, pf_push, pf_bin, pf_puti, pf_ald, pf_ald, pf_ild, pf_callV, pf_ist, pf_ild, pf_push, pf_if2, pf_ild, pf_ild, pf_bin, pf_goto, pf_ild, pf_if, pf_push, pf_goto, pf_ild, pf_ild, pf_div, pf_ist, pf_inc, pf_goto, pf_ild, pf_iret, trivial⟩
set_option maxRecDepth 100000 in
theorem F_149 : pAll pFo 0 C_149 := ⟨pf_push, pf_ist, pf_push, pf_ist, pf_ild, pf_push, pf_if2, pf_ald, pf_callV, pf_push, pf_if2, pf_ald, pf_dup, pf_getf, pf_push, pf_bin, pf_puti, pf_ild, pf_if, pf_push, pf_goto, pf_push, pf_ist, pf_inc, pf_goto, pf_ald, pf_ald, pf_ild, pf_callV, pf_ist, pf_ild, pf_if, pf_ild, pf_un, pf_goto, pf_ild, pf_iret, trivial⟩
set_option maxRecDepth 100000 in
theorem F_150 : pAll pFo 0 C_150 := ⟨pf_ald, pf_callV, pf_ist, pf_ald, pf_callV, pf_if, pf_ald, pf_ald, pf_callV, pf_iret, pf_ild, pf_if, pf_push, pf_goto, pf_push, pf_ild, pf_un, pf_callW, pf_ist, pf_ild, pf_if, pf_ild, pf_ald, pf_getf, pf_len, pf_if2, pf_ald, pf_dup, pf_getf, pf_push, pf_bin, pf_puti, pf_ald, pf_getf, pf_ild, pf_get, pf_iret, pf_ild, pf_push, pf_if2, pf_ild, pf_push, pf_if2, pf_ald, pf_ald, pf_getf, pf_callV, pf_push, pf_iret, pf_ald, pf_dup, pf_getf, pf_push, pf_bin, pf_puti, pf_ald, pf_ald, pf_ild, pf_push, pf_bin, pf_callV, pf_ist, pf_ald, pf_push, pf_callV, pf_ild, pf_iret, trivial⟩
set_option maxRecDepth 100000 in
theorem F_151 : pAll pFo 0 C_151 := ⟨pf_push, pf_ist, pf_push, pf_ist, pf_ild, pf_push, pf_if2, pf_ald, pf_callV, pf_if, pf_ild, pf_push, pf_bin, pf_ald, pf_push, pf_push, pf_callV, pf_bin, pf_ist, pf_inc, pf_goto, pf_ild, pf_iret, trivial⟩
set_option maxRecDepth 100000 in
theorem F_152 : pAll pFo 0 C_152 := ⟨pf_ald, pf_getf, pf_if, pf_ald, pf_getf, pf_push, pf_bin, pf_push, pf_if2, pf_push, pf_zret, pf_push, pf_ist, pf_ild, pf_if, pf_ald, pf_getf, pf_ald, pf_getf, pf_ild, pf_ild, pf_bin, pf_push, pf_bin, pf_set, pf_ald, pf_dup, pf_getf, pf_push, pf_bin, pf_puti, pf_inc, pf_goto, pf_push, pf_zret, trivial⟩
set_option maxRecDepth 100000 in
theorem F_153 : pAll pFo 0 C_153 := ⟨pf_ild, pf_if, pf_ild, pf_ald, pf_getf, pf_if2, pf_push, pf_zret, pf_ald, pf_ild, pf_puti, pf_push, pf_zret, trivial⟩
set_option maxRecDepth 100000 in
theorem F_154 : pAll pFo 0 C_154 := ⟨pf_ild, pf_if, pf_ild, pf_ald, pf_getf, pf_if2, pf_ald, pf_getf, pf_ild, pf_callS, pf_goto, pf_push, pf_iret, trivial⟩
set_option maxRecDepth 100000 in
theorem F_155 : pAll pFo 0 C_155 := ⟨pf_ald, pf_getf, pf_ald, pf_getf, pf_callS, pf_ald, pf_ald, pf_getf, pf_puti, pf_vret, trivial⟩
set_option maxRecDepth 100000 in
theorem F_156 : pAll pFo 0 C_156 := ⟨pf_ald, pf_ald, pf_callS, pf_ist, pf_ild, pf_ist, pf_ild, pf_if, pf_ild, pf_ild, pf_push, pf_bin, pf_bin, pf_if, pf_ild, pf_ald, pf_getf, pf_len, pf_if2, pf_ald, pf_getf, pf_ild, pf_ald, pf_ald, pf_ald, pf_ild, pf_callV, pf_if, pf_ild, pf_ild, pf_if2, pf_ald, pf_ild, pf_ild, pf_callV, pf_push, pf_if2, pf_push, pf_goto, pf_push, pf_setz, pf_inc, pf_goto, pf_ald, pf_push, pf_puti, pf_push, pf_ist, pf_push, pf_ist, pf_ild, pf_push, pf_if2, pf_ild, pf_ild, pf_if2, pf_ald, pf_ild, pf_ild, pf_callV, pf_ist, pf_ild, pf_push, pf_if2, pf_push, pf_zret, pf_ald, pf_getf, pf_ild, pf_ild, pf_set, pf_ald, pf_dup, pf_getf, pf_push, pf_bin, pf_puti, pf_ild, pf_push, pf_ild, pf_bin, pf_bin, pf_ist, pf_inc, pf_goto, pf_ild, pf_ild, pf_if2, pf_push, pf_goto, pf_push, pf_zret, trivial⟩
set_option maxRecDepth 100000 in
theorem F_157 : pAll pFo 0 C_157 := ⟨pf_push, pf_ist, pf_push, pf_ist, pf_ild, pf_ald, pf_getf, pf_if2, pf_ald, pf_getf, pf_ild, pf_get, pf_ald, pf_ild, pf_callS, pf_if2, pf_ild, pf_push, pf_ald, pf_getf, pf_ild, pf_get, pf_bin, pf_bin, pf_ist, pf_inc, pf_goto, pf_ild, pf_iret, trivial⟩
set_option maxRecDepth 100000 in
theorem F_158 : pAll pFo 0 C_158 := ⟨pf_push, pf_ist, pf_ild, pf_push, pf_if2, pf_ild, pf_push, pf_ild, pf_bin, pf_bin, pf_ist, pf_ild, pf_ild, pf_push, pf_bin, pf_bin, pf_ild, pf_callS, pf_if, pf_ild, pf_if, pf_ild, pf_ald, pf_getf, pf_len, pf_if2, pf_ald, pf_getf, pf_ild, pf_get, pf_if, pf_ild, pf_iret, pf_inc, pf_goto, pf_push, pf_iret, trivial⟩
set_option maxRecDepth 100000 in
theorem F_159 : pAll pFo 0 C_159 := ⟨pf_push, pf_ist, pf_ild, pf_ald, pf_getf, pf_if2, pf_ald, pf_getf, pf_ild, pf_ild, pf_ald, pf_getf, pf_ild, pf_get, pf_callS, pf_if, pf_ald, pf_ild, pf_callS, pf_goto, pf_ald, pf_getf, pf_ild, pf_get, pf_set, pf_inc, pf_goto, pf_ald, pf_ald, pf_getf, pf_callV, pf_if, pf_push, pf_goto, pf_push, pf_zret, trivial⟩
set_option maxRecDepth 100000 in
theorem F_160 : pAll pFo 0 C_160 := ⟨pf_ald, pf_ald, pf_getf, pf_push, pf_mm, pf_puti, pf_ald, pf_push, pf_puti, pf_ald, pf_push, pf_putz, pf_ald, pf_push, pf_putz, pf_ald, pf_getf, pf_ald, pf_getf, pf_callS, pf_push, pf_ist, pf_ild, pf_push, pf_if2, pf_ald, pf_getf, pf_ild, pf_push, pf_set, pf_inc, pf_goto, pf_push, pf_ist, pf_ild, pf_ald, pf_getf, pf_len, pf_if2, pf_ald, pf_getf, pf_ild, pf_push, pf_set, pf_inc, pf_goto, pf_push, pf_ist, pf_ild, pf_ald, pf_getf, pf_if2, pf_ald, pf_getf, pf_push, pf_if2, pf_ild, pf_ild, pf_callS, pf_if, pf_ald, pf_getf, pf_ald, pf_getf, pf_ald, pf_ild, pf_callV, pf_set, pf_ald, pf_getf, pf_ald, pf_getf, pf_push, pf_set, pf_ald, pf_dup, pf_getf, pf_push, pf_bin, pf_puti, pf_inc, pf_goto, pf_vret, trivial⟩
set_option maxRecDepth 100000 in
theorem F_161 : pAll pFo 0 C_161 := ⟨pf_ild, pf_if, pf_ild, pf_ald, pf_getf, pf_if2, pf_ald, pf_getf, pf_ild, pf_dup2, pf_get, pf_ild, pf_bin, pf_set, pf_vret, trivial⟩
set_option maxRecDepth 100000 in
theorem F_162 : pAll pFo 0 C_162 := ⟨pf_ild, pf_if, pf_ild, pf_push, pf_if2, pf_ild, pf_if, pf_ild, pf_push, pf_if2, pf_ald, pf_getf, pf_ild, pf_push, pf_bin, pf_ild, pf_bin, pf_dup2, pf_get, pf_ild, pf_bin, pf_set, pf_vret, trivial⟩
set_option maxRecDepth 100000 in
theorem F_163 : pAll pFo 0 C_163 := ⟨pf_ald, pf_getf, pf_if, pf_push, pf_zret, pf_ald, pf_getf, pf_if, pf_ald, pf_getf, pf_push, pf_bin, pf_goto, pf_ald, pf_callV, pf_if, pf_push, pf_goto, pf_push, pf_ist, pf_ald, pf_push, pf_putz, pf_push, pf_ist, pf_ild, pf_push, pf_if2, pf_ild, pf_if, pf_ild, pf_ald, pf_getf, pf_if2, pf_ald, pf_ild, pf_callV, pf_if, pf_ild, pf_push, pf_bin, pf_goto, pf_ild, pf_push, pf_bin, pf_ist, pf_inc, pf_goto, pf_ald, pf_ild, pf_ald, pf_getf, pf_if2, pf_push, pf_goto, pf_push, pf_putz, pf_ald, pf_getf, pf_if, pf_push, pf_goto, pf_push, pf_zret, trivial⟩
set_option maxRecDepth 100000 in
theorem F_164 : pAll pFo 0 C_164 := ⟨pf_push, pf_ist, pf_push, pf_ist, pf_ild, pf_ald, pf_getf, pf_if2, pf_ald, pf_getf, pf_ild, pf_get, pf_if, pf_push, pf_zret, pf_ild, pf_ald, pf_getf, pf_ild, pf_get, pf_bin, pf_ist, pf_inc, pf_goto, pf_push, pf_ist, pf_ild, pf_ald, pf_getf, pf_if2, pf_ild, pf_ald, pf_getf, pf_ild, pf_get, pf_bin, pf_ist, pf_inc, pf_goto, pf_ild, pf_if, pf_push, pf_goto, pf_push, pf_zret, trivial⟩
set_option maxRecDepth 100000 in
theorem F_165 : pAll pFo 0 C_165 := ⟨pf_ald, pf_getf, pf_ild, pf_get, pf_ist, pf_ild, pf_if, pf_ild, pf_ald, pf_getf, pf_if2, pf_ald, pf_getf, pf_ild, pf_dup2, pf_get, pf_ald, pf_getf, pf_ild, pf_get, pf_bin, pf_set, pf_push, pf_ild, pf_push, pf_bin, pf_mm, pf_ist, pf_ild, pf_ald, pf_getf, pf_if2, pf_ald, pf_getf, pf_ild, pf_get, pf_ald, pf_getf, pf_ild, pf_get, pf_bin, pf_ald, pf_getf, pf_ild, pf_get, pf_if2, pf_ald, pf_getf, pf_ild, pf_dup2, pf_get, pf_ald, pf_getf, pf_ild, pf_get, pf_bin, pf_set, pf_ald, pf_getf, pf_ild, pf_ild, pf_set, pf_push, pf_zret, pf_inc, pf_goto, pf_ald, pf_getf, pf_ild, pf_push, pf_set, pf_push, pf_zret, trivial⟩
set_option maxRecDepth 100000 in
theorem F_166 : pAll pFo 0 C_166 := ⟨pf_push, pf_ist, pf_push, pf_ist, pf_ild, pf_ald, pf_getf, pf_if2, pf_ild, pf_ald, pf_getf, pf_ild, pf_push, pf_bin, pf_ald, pf_getf, pf_ild, pf_get, pf_bin, pf_callS, pf_bin, pf_ist, pf_inc, pf_goto, pf_ild, pf_iret, trivial⟩
set_option maxRecDepth 100000 in
theorem F_167 : pAll pFo 0 C_167 := ⟨pf_ald, pf_push, pf_puti, pf_ald, pf_push, pf_puti, pf_push, pf_ist, pf_ild, pf_push, pf_if2, pf_ald, pf_callV, pf_if, pf_ald, pf_callV, pf_ist, pf_ald, pf_getf, pf_if, pf_ild, pf_ald, pf_getf, pf_if2, pf_ald, pf_ild, pf_puti, pf_ald, pf_getf, pf_ald, pf_getf, pf_callS, pf_ald, pf_dup, pf_getf, pf_push, pf_bin, pf_puti, pf_inc, pf_goto, pf_ald, pf_getf, pf_if, pf_push, pf_goto, pf_push, pf_zret, trivial⟩
set_option maxRecDepth 100000 in
theorem F_168 : pAll pFo 0 C_168 := ⟨pf_ald, pf_push, pf_puti, pf_push, pf_iret, trivial⟩
set_option maxRecDepth 100000 in
theorem F_169 : pAll pFo 0 C_169 := ⟨pf_ild, pf_ild, pf_if2, pf_ild, pf_ild, pf_if2, pf_push, pf_goto, pf_push, pf_zret, trivial⟩
set_option maxRecDepth 100000 in
theorem F_170 : pAll pFo 0 C_170 := ⟨pf_ild, pf_ild, pf_bin, pf_push, pf_bin, pf_push, pf_if2, pf_push, pf_goto, pf_push, pf_zret, trivial⟩
set_option maxRecDepth 100000 in
theorem F_171 : pAll pFo 0 C_171 := ⟨pf_ald, pf_push, pf_puti, pf_push, pf_iret, trivial⟩
set_option maxRecDepth 100000 in
theorem F_172 : pAll pFo 0 C_172 := ⟨pf_ald, pf_getf, pf_ald, pf_getf, pf_ild, pf_set, pf_ald, pf_dup, pf_getf, pf_push, pf_bin, pf_puti, pf_vret, trivial⟩
set_option maxRecDepth 100000 in
theorem F_173 : pAll pFo 0 C_173 := ⟨pf_ild, pf_push, pf_ald, pf_getf, pf_push, pf_bin, pf_callS, pf_zret, trivial⟩
set_option maxRecDepth 100000 in
theorem F_174 : pAll pFo 0 C_174 := ⟨pf_ild, pf_push, pf_ald, pf_getf, pf_push, pf_bin, pf_callS, pf_zret, trivial⟩
set_option maxRecDepth 100000 in
theorem F_175 : pAll pFo 0 C_175 := ⟨pf_ald, pf_push, pf_puti, pf_ald, pf_getf, pf_push, pf_bin, pf_push, pf_if2, pf_push, pf_iret, pf_push, pf_ist, pf_ild, pf_if, pf_ald, pf_getf, pf_ald, pf_dup, pf_getf, pf_dupx1, pf_push, pf_bin, pf_puti, pf_ild, pf_push, pf_ild, pf_bin, pf_bin, pf_un, pf_set, pf_inc, pf_goto, pf_ald, pf_getf, pf_iret, trivial⟩
set_option maxRecDepth 100000 in
theorem F_176 : pAll pFo 0 C_176 := ⟨pf_ald, pf_push, pf_puti, pf_ild, pf_push, pf_ald, pf_getf, pf_callS, pf_if, pf_push, pf_zret, pf_ald, pf_ild, pf_puti, pf_push, pf_zret, trivial⟩
set_option maxRecDepth 100000 in
theorem F_177 : pAll pFo 0 C_177 := ⟨pf_ald, pf_ald, pf_putr, pf_ald, pf_ild, pf_puti, pf_ald, pf_ild, pf_puti, pf_ald, pf_push, pf_puti, pf_ald, pf_push, pf_puti, pf_vret, trivial⟩
set_option maxRecDepth 100000 in
theorem F_178 : pAll pFo 0 C_178 := ⟨pf_ald, pf_getf, pf_ald, pf_getf, pf_if2, pf_ald, pf_getf, pf_ald, pf_getf, pf_if2, pf_ald, pf_getf, pf_ald, pf_getf, pf_get, pf_goto, pf_push, pf_iret, trivial⟩
set_option maxRecDepth 100000 in
theorem F_179 : pAll pFo 0 C_179 := ⟨pf_ald, pf_getf, pf_push, pf_if2, pf_push, pf_goto, pf_push, pf_zret, trivial⟩
set_option maxRecDepth 100000 in
theorem F_180 : pAll pFo 0 C_180 := ⟨pf_ald, pf_callV, pf_if, pf_ald, pf_ild, pf_puti, pf_vret, trivial⟩
set_option maxRecDepth 100000 in
theorem F_181 : pAll pFo 0 C_181 := ⟨pf_ald, pf_callV, pf_if, pf_ald, pf_callV, pf_ild, pf_if2, pf_push, pf_zret, pf_ald, pf_dup, pf_getf, pf_push, pf_bin, pf_puti, pf_push, pf_zret, trivial⟩
set_option maxRecDepth 100000 in
theorem F_182 : pAll pFo 0 C_182 := ⟨pf_ald, pf_ild, pf_callV, pf_if, pf_ald, pf_ald, pf_getf, pf_callV, pf_vret, trivial⟩
set_option maxRecDepth 100000 in
theorem F_183 : pAll pFo 0 C_183 := ⟨pf_ald, pf_callV, pf_if, pf_push, pf_iret, pf_ald, pf_getf, pf_ist, pf_push, pf_ist, pf_ald, pf_getf, pf_ild, pf_ild, pf_bin, pf_if2, pf_ald, pf_callV, pf_push, pf_push, pf_callS, pf_if, pf_push, pf_ild, pf_bin, pf_ald, pf_callV, pf_bin, pf_push, pf_bin, pf_ist, pf_ald, pf_dup, pf_getf, pf_push, pf_bin, pf_puti, pf_goto, pf_ald, pf_getf, pf_ild, pf_if2, pf_ald, pf_ald, pf_getf, pf_callV, pf_goto, pf_ild, pf_ild, pf_ild, pf_callS, pf_if, pf_ald, pf_ald, pf_getf, pf_push, pf_bin, pf_callV, pf_ald, pf_callV, pf_if, pf_ild, pf_goto, pf_push, pf_iret, trivial⟩
set_option maxRecDepth 100000 in
theorem F_184 : pAll pFo 0 C_184 := ⟨pf_ald, pf_push, pf_puti, pf_ald, pf_ald, pf_getf, pf_ald, pf_getf, pf_push, pf_callV, pf_ald, pf_push, pf_puti, pf_ald, pf_getf, pf_if, pf_push, pf_iret, pf_ald, pf_getf, pf_ist, pf_ald, pf_getf, pf_ist, pf_ald, pf_getf, pf_ist, pf_push, pf_ist, pf_push, pf_ist, pf_push, pf_ist, pf_ild, pf_if, pf_ald, pf_callV, pf_if, pf_ald, pf_callV, pf_push, pf_if2, pf_ild, pf_push, pf_if2, pf_ald, pf_ald, pf_getf, pf_callV, pf_goto, pf_ald, pf_dup, pf_getf, pf_push, pf_bin, pf_puti, pf_ald, pf_getf, pf_ild, pf_ald, pf_push, pf_push, pf_push, pf_callV, pf_set, pf_inc, pf_goto, pf_ald, pf_callV, pf_push, pf_if2, pf_ald, pf_dup, pf_getf, pf_push, pf_bin, pf_puti, pf_ald, pf_push, pf_push, pf_ild, pf_push, pf_bin, pf_callV, pf_ist, pf_ald, pf_push, pf_callV, pf_ald, pf_push, pf_push, pf_ild, pf_push, pf_bin, pf_callV, pf_ist, pf_ald, pf_callV, pf_if, pf_ild, pf_ild, pf_if2, pf_ald, pf_ald, pf_getf, pf_push, pf_bin, pf_callV, pf_ald, pf_push, pf_callV, pf_ald, pf_getf, pf_push, pf_ild, pf_bin, pf_ild, pf_set, pf_ald, pf_getf, pf_push, pf_ild, pf_bin, pf_push, pf_bin, pf_ild, pf_set, pf_ald, pf_getf, pf_push, pf_ild, pf_bin, pf_push, pf_bin, pf_ald, pf_push, pf_push, pf_push, pf_callV, pf_set, pf_inc, pf_goto, pf_ald, pf_callV, pf_push, pf_if2, pf_ild, pf_push, pf_if2, pf_ald, pf_ald, pf_getf, pf_callV, pf_goto, pf_ald, pf_ild, pf_ild, pf_callV, pf_inc, pf_goto, pf_ild, pf_push, pf_if2, pf_ald, pf_ald, pf_getf, pf_callV, pf_goto, pf_ald, pf_ild, pf_ild, pf_callV, pf_inc, pf_inc, pf_ald, pf_push, pf_callV, pf_ist, pf_goto, pf_ald, pf_getf, pf_ald, pf_getf, pf_if2, pf_ald, pf_ald, pf_getf, pf_callV, pf_ald, pf_callV, pf_if, pf_push, pf_ald, pf_getf, pf_bin, pf_iret, pf_ald, pf_getf, pf_ist, pf_ild, pf_ild, pf_if2, pf_push, pf_ist, pf_ild, pf_push, pf_if2, pf_ald, pf_getf, pf_push, pf_ild, pf_bin, pf_ild, pf_bin, pf_push, pf_set, pf_ald, pf_getf, pf_push, pf_ild, pf_bin, pf_ild, pf_bin, pf_push, pf_set, pf_inc, pf_goto, pf_inc, pf_goto, pf_push, pf_ist, pf_ild, pf_ild, pf_if2, pf_ald, pf_ald, pf_getf, pf_push, pf_ild, pf_bin, pf_get, pf_ald, pf_getf, pf_push, pf_ild, pf_bin, pf_push, pf_bin, pf_get, pf_ald, pf_getf, pf_push, pf_ild, pf_bin, pf_push, pf_bin, pf_get, pf_callV, pf_inc, pf_goto, pf_ild, pf_ald, pf_getf, pf_if2, pf_ild, pf_ald, pf_getf, pf_if2, pf_ald, pf_dup, pf_getf, pf_push, pf_bin, pf_puti, pf_ald, pf_ild, pf_puti, pf_ald, pf_ild, pf_puti, pf_ald, pf_ild, pf_puti, pf_ald, pf_push, pf_puti, pf_ild, pf_iret, trivial⟩
set_option maxRecDepth 100000 in
theorem F_185 : pAll pFo 0 C_185 := ⟨pf_ald, pf_getf, pf_push, pf_ild, pf_bin, pf_ild, pf_bin, pf_ild, pf_set, pf_ald, pf_getf, pf_push, pf_ild, pf_bin, pf_ild, pf_bin, pf_ild, pf_set, pf_vret, trivial⟩
set_option maxRecDepth 100000 in
theorem F_186 : pAll pFo 0 C_186 := ⟨pf_ald, pf_getf, pf_ild, pf_ald, pf_push, pf_push, pf_push, pf_callV, pf_set, pf_ald, pf_push, pf_callV, pf_ald, pf_getf, pf_ild, pf_ald, pf_push, pf_push, pf_push, pf_callV, pf_set, pf_ald, pf_push, pf_callV, pf_ald, pf_getf, pf_ild, pf_ald, pf_push, pf_push, pf_push, pf_callV, pf_set, pf_ald, pf_push, pf_callV, pf_ald, pf_getf, pf_ild, pf_ald, pf_push, pf_push, pf_ild, pf_push, pf_bin, pf_callV, pf_set, pf_vret, trivial⟩
set_option maxRecDepth 100000 in
theorem F_187 : pAll pFo 0 C_187 := ⟨pf_ald, pf_dup, pf_getf, pf_push, pf_bin, pf_puti, pf_push, pf_ist, pf_push, pf_ist, pf_ald, pf_callV, pf_if, pf_ald, pf_callV, pf_push, pf_push, pf_callS, pf_if, pf_ald, pf_callV, pf_push, pf_bin, pf_ist, pf_ild, pf_ild, pf_if2, pf_ild, pf_ild, pf_if2, pf_ald, pf_ald, pf_getf, pf_callV, pf_vret, pf_ild, pf_push, pf_ild, pf_bin, pf_bin, pf_ist, pf_ild, pf_ist, pf_ald, pf_dup, pf_getf, pf_push, pf_bin, pf_puti, pf_goto, pf_ild, pf_if, pf_ald, pf_ald, pf_getf, pf_callV, pf_ald, pf_getf, pf_ild, pf_ild, pf_set, pf_vret, trivial⟩
set_option maxRecDepth 100000 in
theorem F_188 : pAll pFo 0 C_188 := ⟨pf_ald, pf_ild, pf_callV, pf_ist, pf_ald, pf_push, pf_callV, pf_if, pf_ild, pf_ald, pf_ild, pf_callV, pf_if2, pf_push, pf_goto, pf_push, pf_iret, pf_ald, pf_push, pf_callV, pf_if, pf_ild, pf_ald, pf_ild, pf_callV, pf_if2, pf_push, pf_goto, pf_push, pf_iret, pf_ald, pf_push, pf_callV, pf_if, pf_ild, pf_ald, pf_ild, pf_callV, pf_if2, pf_push, pf_goto, pf_push, pf_iret, pf_ild, pf_iret, trivial⟩
set_option maxRecDepth 100000 in
theorem F_189 : pAll pFo 0 C_189 := ⟨pf_ald, pf_ild, pf_callV, pf_ist, pf_ald, pf_callV, pf_if, pf_ald, pf_callV, pf_push, pf_if2, pf_ald, pf_callV, pf_push, pf_if2, pf_ald, pf_callV, pf_push, pf_if2, pf_push, pf_goto, pf_push, pf_ist, pf_ald, pf_dup, pf_getf, pf_push, pf_bin, pf_puti, pf_ald, pf_ild, pf_callV, pf_ist, pf_ild, pf_if, pf_ild, pf_ild, pf_bin, pf_goto, pf_ild, pf_ild, pf_bin, pf_ist, pf_goto, pf_ild, pf_iret, trivial⟩
set_option maxRecDepth 100000 in
theorem F_190 : pAll pFo 0 C_190 := ⟨pf_ald, pf_ild, pf_callV, pf_ist, pf_ald, pf_callV, pf_if, pf_ald, pf_callV, pf_push, pf_if2, pf_ald, pf_callV, pf_push, pf_if2, pf_ald, pf_callV, pf_push, pf_if2, pf_push, pf_goto, pf_push, pf_ist, pf_ald, pf_dup, pf_getf, pf_push, pf_bin, pf_puti, pf_ald, pf_ild, pf_callV, pf_ist, pf_ild, pf_if, pf_ild, pf_ild, pf_bin, pf_goto, pf_ild, pf_if, pf_push, pf_goto, pf_ild, pf_ild, pf_div, pf_ist, pf_goto, pf_ild, pf_iret, trivial⟩
set_option maxRecDepth 100000 in
theorem F_191 : pAll pFo 0 C_191 := ⟨pf_ald, pf_push, pf_callV, pf_if, pf_ald, pf_ild, pf_callV, pf_un, pf_iret, pf_ald, pf_callV, pf_if, pf_push, pf_iret, pf_ald, pf_callV, pf_ist, pf_ild, pf_push, pf_if2, pf_ild, pf_push, pf_if2, pf_ald, pf_dup, pf_getf, pf_push, pf_bin, pf_puti, pf_ald, pf_ild, pf_push, pf_bin, pf_callV, pf_ist, pf_ald, pf_push, pf_callV, pf_ild, pf_iret, pf_ild, pf_push, pf_push, pf_callS, pf_if, pf_ald, pf_push, pf_push, pf_push, pf_callV, pf_iret, pf_ild, pf_push, pf_if2, pf_ild, pf_push, pf_if2, pf_ild, pf_push, pf_if2, pf_ild, pf_push, pf_if2, pf_ild, pf_push, pf_if2, pf_ild, pf_push, pf_if2, pf_ild, pf_push, pf_if2, pf_ild, pf_push, pf_if2, pf_ild, pf_push, pf_if2, pf_ald, pf_ald, pf_getf, pf_callV, pf_push, pf_iret, pf_ald, pf_dup, pf_getf, pf_push, pf_bin, pf_puti, pf_ald, pf_getf, pf_push, pf_if2, pf_push, pf_goto, pf_ald, pf_ild, pf_ald, pf_getf, pf_ald, pf_getf, pf_callV, pf_iret, trivial⟩
set_option maxRecDepth 100000 in
theorem F_192 : pAll pFo 0 C_192 := ⟨pf_ild, pf_sw, pf_ild, pf_iret, pf_ald, pf_getf, pf_ild, pf_get, pf_iret, pf_ald, pf_getf, pf_ild, pf_get, pf_iret, pf_ald, pf_getf, pf_ild, pf_get, pf_iret, pf_ald, pf_ild, pf_callV, pf_callS, pf_iret, pf_ild, pf_iret, pf_ald, pf_getf, pf_ild, pf_get, pf_iret, pf_ald, pf_ild, pf_callV, pf_callS, pf_iret, pf_ald, pf_getf, pf_ild, pf_get, pf_ild, pf_if2, pf_push, pf_goto, pf_push, pf_iret, trivial⟩
set_option maxRecDepth 100000 in
theorem F_193 : pAll pFo 0 C_193 := ⟨pf_ald, pf_push, pf_puti, pf_ald, pf_getf, pf_ist, pf_ald, pf_ald, pf_getf, pf_ild, pf_push, pf_callV, pf_ald, pf_push, pf_puti, pf_ald, pf_push, pf_puti, pf_ild, pf_if, pf_ald, pf_push, pf_callV, pf_pop, pf_ald, pf_getf, pf_ild, pf_if2, pf_ald, pf_ald, pf_getf, pf_callV, pf_ald, pf_callV, pf_if, pf_push, pf_ald, pf_getf, pf_bin, pf_iret, pf_push, pf_ist, pf_ild, pf_ild, pf_if2, pf_ald, pf_getf, pf_ild, pf_ald, pf_getf, pf_ild, pf_get, pf_set, pf_inc, pf_goto, pf_ald, pf_ild, pf_puti, pf_push, pf_iret, trivial⟩
set_option maxRecDepth 100000 in
theorem F_194 : pAll pFo 0 C_194 := ⟨pf_ald, pf_getf, pf_if, pf_push, pf_iret, pf_ald, pf_ald, pf_getf, pf_ald, pf_getf, pf_push, pf_callV, pf_ald, pf_ild, pf_puti, pf_ald, pf_ild, pf_puti, pf_push, pf_push, pf_ald, pf_push, pf_callV, pf_mm, pf_mm, pf_iret, trivial⟩
set_option maxRecDepth 100000 in
theorem F_195 : pAll pFo 0 C_195 := ⟨pf_push, pf_ist, pf_push, pf_ist, pf_ild, pf_ald, pf_getf, pf_if2, pf_ild, pf_ald, pf_ild, pf_ald, pf_ild, pf_get, pf_callV, pf_bin, pf_ist, pf_inc, pf_goto, pf_ild, pf_iret, trivial⟩
set_option maxRecDepth 100000 in
theorem F_196 : pAll pFo 0 C_196 := ⟨pf_push, pf_ist, pf_push, pf_ist, pf_ild, pf_ald, pf_getf, pf_if2, pf_ild, pf_ald, pf_getf, pf_ild, pf_get, pf_ild, pf_callS, pf_if, pf_push, pf_ild, pf_bin, pf_goto, pf_push, pf_bin, pf_ist, pf_inc, pf_goto, pf_ild, pf_iret, trivial⟩
set_option maxRecDepth 100000 in
theorem F_197 : pAll pFo 0 C_197 := ⟨pf_push, pf_ist, pf_push, pf_ist, pf_ild, pf_ald, pf_getf, pf_if2, pf_ild, pf_ald, pf_getf, pf_push, pf_ild, pf_bin, pf_ild, pf_bin, pf_get, pf_if, pf_push, pf_ild, pf_bin, pf_goto, pf_push, pf_bin, pf_ist, pf_inc, pf_goto, pf_ild, pf_iret, trivial⟩
set_option maxRecDepth 100000 in
theorem F_198 : pAll pFo 0 C_198 := ⟨pf_ald, pf_getf, pf_ild, pf_get, pf_ist, pf_push, pf_ist, pf_ild, pf_ald, pf_getf, pf_if2, pf_ild, pf_ald, pf_ild, pf_get, pf_ild, pf_if2, pf_ald, pf_getf, pf_ild, pf_get, pf_goto, pf_push, pf_bin, pf_ist, pf_inc, pf_goto, pf_ild, pf_iret, trivial⟩
set_option maxRecDepth 100000 in
theorem F_199 : pAll pFo 0 C_199 := ⟨pf_ald, pf_push, pf_puti, pf_ald, pf_ild, pf_callV, pf_if, pf_ild, pf_push, pf_push, pf_callS, pf_if, pf_ald, pf_callV, pf_iret, pf_ild, pf_if, pf_ald, pf_getf, pf_ild, pf_get, pf_iret, pf_ild, pf_push, pf_if2, pf_ald, pf_ald, pf_getf, pf_ild, pf_callV, pf_iret, pf_ild, pf_push, pf_if2, pf_ald, pf_ild, pf_callV, pf_iret, pf_push, pf_ist, pf_push, pf_ist, pf_ild, pf_ald, pf_getf, pf_if2, pf_ild, pf_ald, pf_getf, pf_ild, pf_get, pf_ild, pf_if2, pf_push, pf_ild, pf_bin, pf_goto, pf_push, pf_bin, pf_ist, pf_inc, pf_goto, pf_ild, pf_iret, trivial⟩
set_option maxRecDepth 100000 in
theorem F_200 : pAll pFo 0 C_200 := ⟨pf_ald, pf_push, pf_puti, pf_ild, pf_ist, pf_push, pf_ist, pf_ild, pf_ald, pf_getf, pf_if2, pf_ild, pf_ild, pf_callS, pf_if, pf_goto, pf_push, pf_ild, pf_bin, pf_ist, pf_push, pf_ist, pf_ild, pf_ild, pf_if2, pf_ild, pf_ist, pf_push, pf_ist, pf_ild, pf_ald, pf_getf, pf_if2, pf_ild, pf_ild, pf_callS, pf_if, pf_ald, pf_getf, pf_ild, pf_get, pf_ild, pf_bin, pf_if, pf_ild, pf_ald, pf_getf, pf_ild, pf_get, pf_ild, pf_push, pf_bin, pf_bin, pf_bin, pf_ist, pf_inc, pf_goto, pf_goto, pf_ald, pf_getf, pf_ald, pf_getf, pf_ild, pf_set, pf_push, pf_ist, pf_ild, pf_ald, pf_getf, pf_if2, pf_ild, pf_ild, pf_callS, pf_if, pf_ald, pf_getf, pf_ild, pf_ald, pf_getf, pf_set, pf_inc, pf_goto, pf_ald, pf_dup, pf_getf, pf_push, pf_bin, pf_puti, pf_ild, pf_ild, pf_bin, pf_ist, pf_inc, pf_goto, pf_vret, trivial⟩
set_option maxRecDepth 100000 in
theorem F_201 : pAll pFo 0 C_201 := ⟨pf_ald, pf_push, pf_puti, pf_ald, pf_ild, pf_callV, pf_if, pf_ild, pf_push, pf_push, pf_callS, pf_if, pf_ald, pf_callV, pf_iret, pf_ild, pf_sw, pf_ald, pf_getf, pf_ild, pf_get, pf_iret, pf_ald, pf_getf, pf_ild, pf_get, pf_iret, pf_ald, pf_getf, pf_ild, pf_get, pf_iret, pf_ald, pf_getf, pf_ild, pf_get, pf_iret, pf_ald, pf_ild, pf_callV, pf_iret, pf_ald, pf_push, pf_push, pf_callV, pf_ald, pf_getf, pf_ild, pf_get, pf_iret, pf_ald, pf_ild, pf_ald, pf_getf, pf_ild, pf_get, pf_callV, pf_iret, trivial⟩
set_option maxRecDepth 100000 in
theorem F_202 : pAll pFo 0 C_202 := ⟨pf_ald, pf_push, pf_puti, pf_ild, pf_push, pf_ald, pf_getf, pf_push, pf_bin, pf_callS, pf_if, pf_ald, pf_getf, pf_ild, pf_get, pf_goto, pf_push, pf_iret, trivial⟩
set_option maxRecDepth 100000 in
theorem F_203 : pAll pFo 0 C_203 := ⟨pf_ald, pf_push, pf_puti, pf_ald, pf_ild, pf_callV, pf_if, pf_ald, pf_ild, pf_callV, pf_if, pf_ild, pf_ild, pf_if2, pf_push, pf_iret, pf_ald, pf_getf, pf_push, pf_ild, pf_bin, pf_ild, pf_bin, pf_get, pf_if, pf_push, pf_goto, pf_ald, pf_getf, pf_push, pf_ild, pf_bin, pf_ild, pf_bin, pf_get, pf_iret, trivial⟩
set_option maxRecDepth 100000 in
theorem F_204 : pAll pFo 0 C_204 := ⟨pf_ald, pf_push, pf_puti, pf_ald, pf_ild, pf_callV, pf_if, pf_ald, pf_ild, pf_callV, pf_if, pf_ild, pf_ild, pf_if2, pf_ild, pf_push, pf_push, pf_callS, pf_if, pf_push, pf_iret, pf_ald, pf_getf, pf_push, pf_ild, pf_bin, pf_ild, pf_bin, pf_get, pf_ist, pf_ald, pf_ild, pf_ild, pf_ild, pf_callV, pf_ild, pf_iret, trivial⟩
set_option maxRecDepth 100000 in
theorem F_205 : pAll pFo 0 C_205 := ⟨pf_ald, pf_push, pf_puti, pf_ild, pf_push, pf_push, pf_callS, pf_if, pf_push, pf_iret, pf_ald, pf_getf, pf_ist, pf_ald, pf_ild, pf_puti, pf_ild, pf_iret, trivial⟩
set_option maxRecDepth 100000 in
theorem F_206 : pAll pFo 0 C_206 := ⟨pf_ald, pf_push, pf_puti, pf_ild, pf_push, pf_push, pf_callS, pf_if, pf_ild, pf_push, pf_if2, pf_push, pf_iret, pf_ild, pf_push, pf_if2, pf_ild, pf_if, pf_push, pf_iret, pf_push, pf_ist, pf_ild, pf_ist, pf_push, pf_ist, pf_ild, pf_ald, pf_getf, pf_if2, pf_ild, pf_if, pf_ild, pf_un, pf_goto, pf_ild, pf_push, pf_if2, pf_ild, pf_un, pf_goto, pf_ild, pf_ist, pf_ald, pf_getf, pf_ild, pf_ild, pf_push, pf_if2, pf_ild, pf_ild, pf_if2, pf_push, pf_goto, pf_push, pf_push, pf_ild, pf_mm, pf_mm, pf_set, pf_ild, pf_ald, pf_getf, pf_ild, pf_get, pf_bin, pf_ist, pf_ild, pf_ild, pf_bin, pf_ist, pf_inc, pf_goto, pf_ild, pf_push, pf_if2, pf_push, pf_goto, pf_ild, pf_iret, trivial⟩
set_option maxRecDepth 100000 in
theorem F_207 : pAll pFo 0 C_207 := ⟨pf_push, pf_ist, pf_ild, pf_ald, pf_getf, pf_if2, pf_ald, pf_getf, pf_ild, pf_ild, pf_ild, pf_if2, pf_push, pf_goto, pf_push, pf_set, pf_inc, pf_goto, pf_push, pf_ist, pf_ild, pf_ald, pf_getf, pf_if2, pf_push, pf_ist, pf_ild, pf_ald, pf_getf, pf_if2, pf_push, pf_ist, pf_ild, pf_ald, pf_getf, pf_if2, pf_ald, pf_getf, pf_ild, pf_get, pf_ild, pf_if2, pf_ald, pf_getf, pf_push, pf_ild, pf_bin, pf_ild, pf_bin, pf_get, pf_ild, pf_if2, pf_ald, pf_getf, pf_ild, pf_ald, pf_getf, pf_ild, pf_get, pf_ild, pf_push, pf_bin, pf_mm, pf_set, pf_inc, pf_goto, pf_inc, pf_goto, pf_inc, pf_goto, pf_vret, trivial⟩
set_option maxRecDepth 100000 in
theorem F_208 : pAll pFo 0 C_208 := ⟨pf_ald, pf_ild, pf_ald, pf_getf, pf_ild, pf_get, pf_callV, pf_ald, pf_getf, pf_ild, pf_get, pf_iret, trivial⟩
set_option maxRecDepth 100000 in
theorem F_209 : pAll pFo 0 C_209 := ⟨pf_push, pf_ist, pf_push, pf_ist, pf_ild, pf_ald, pf_getf, pf_if2, pf_ald, pf_ild, pf_ild, pf_bin, pf_get, pf_ald, pf_ild, pf_ild, pf_bin, pf_get, pf_if2, pf_push, pf_goto, pf_ald, pf_ild, pf_ald, pf_ild, pf_ild, pf_bin, pf_get, pf_ald, pf_ild, pf_ild, pf_bin, pf_get, pf_callV, pf_ist, pf_ild, pf_push, pf_if2, pf_push, pf_iret, pf_ild, pf_ild, pf_ald, pf_getf, pf_ild, pf_get, pf_bin, pf_bin, pf_ist, pf_inc, pf_goto, pf_ild, pf_iret, trivial⟩
set_option maxRecDepth 100000 in
theorem F_210 : pAll pFo 0 C_210 := ⟨pf_push, pf_ist, pf_push, pf_ist, pf_ild, pf_ald, pf_getf, pf_if2, pf_ald, pf_getf, pf_ild, pf_get, pf_push, pf_bin, pf_callS, pf_ist, pf_push, pf_ist, pf_ild, pf_ald, pf_getf, pf_if2, pf_ald, pf_getf, pf_ild, pf_get, pf_ild, pf_callS, pf_if, pf_ald, pf_ild, pf_get, pf_ald, pf_ild, pf_get, pf_if2, pf_ild, pf_push, pf_ild, pf_bin, pf_bin, pf_ist, pf_inc, pf_goto, pf_inc, pf_goto, pf_ild, pf_iret, trivial⟩
set_option maxRecDepth 100000 in
theorem F_211 : pAll pFo 0 C_211 := ⟨pf_push, pf_ist, pf_push, pf_ist, pf_ild, pf_ald, pf_getf, pf_if2, pf_ild, pf_ald, pf_ald, pf_ild, pf_callV, pf_if, pf_push, pf_ild, pf_bin, pf_goto, pf_push, pf_bin, pf_ist, pf_inc, pf_goto, pf_ild, pf_iret, trivial⟩
set_option maxRecDepth 100000 in
theorem F_212 : pAll pFo 0 C_212 := ⟨pf_ald, pf_ald, pf_callV, pf_if, pf_ald, pf_ald, pf_callV, pf_if, pf_push, pf_goto, pf_push, pf_zret, trivial⟩
set_option maxRecDepth 100000 in
theorem F_213 : pAll pFo 0 C_213 := ⟨pf_ald, pf_ild, pf_callV, pf_if, pf_ald, pf_ild, pf_callV, pf_if, pf_push, pf_iret, pf_ald, pf_ild, pf_ald, pf_getf, pf_ild, pf_get, pf_ild, pf_callV, pf_ist, pf_ild, pf_push, pf_if2, pf_push, pf_iret, pf_ald, pf_getf, pf_ild, pf_ald, pf_getf, pf_ild, pf_get, pf_bin, pf_bin, pf_ald, pf_getf, pf_if2, pf_push, pf_goto, pf_push, pf_iret, trivial⟩
set_option maxRecDepth 100000 in
theorem F_214 : pAll pFo 0 C_214 := ⟨pf_ald, pf_ild, pf_ald, pf_getf, pf_ild, pf_get, pf_ild, pf_callV, pf_ald, pf_getf, pf_ild, pf_get, pf_bin, pf_ist, pf_ald, pf_getf, pf_ild, pf_ild, pf_set, pf_ald, pf_dup, pf_getf, pf_ild, pf_bin, pf_puti, pf_ild, pf_iret, trivial⟩
set_option maxRecDepth 100000 in
theorem F_215 : pAll pFo 0 C_215 := ⟨pf_ald, pf_getf, pf_push, pf_if2, pf_push, pf_ist, pf_ild, pf_push, pf_if2, pf_ald, pf_getf, pf_ild, pf_ald, pf_getf, pf_ild, pf_push, pf_bin, pf_get, pf_set, pf_inc, pf_goto, pf_ald, pf_dup, pf_getf, pf_push, pf_bin, pf_puti, pf_ald, pf_getf, pf_push, pf_ald, pf_getf, pf_bin, pf_ild, pf_set, pf_ald, pf_getf, pf_push, pf_ald, pf_getf, pf_bin, pf_push, pf_bin, pf_ald, pf_getf, pf_ild, pf_get, pf_set, pf_ald, pf_getf, pf_push, pf_ald, pf_getf, pf_bin, pf_push, pf_bin, pf_ald, pf_getf, pf_set, pf_ald, pf_dup, pf_getf, pf_push, pf_bin, pf_puti, pf_vret, trivial⟩
set_option maxRecDepth 100000 in
theorem F_216 : pAll pFo 0 C_216 := ⟨pf_ald, pf_push, pf_puti, pf_ald, pf_ild, pf_ild, pf_callV, pf_ist, pf_ild, pf_if, pf_ild, pf_iret, pf_ald, pf_ild, pf_callV, pf_ald, pf_ild, pf_ild, pf_callV, pf_iret, trivial⟩
set_option maxRecDepth 100000 in
theorem F_217 : pAll pFo 0 C_217 := ⟨pf_ald, pf_ald, pf_getf, pf_callV, pf_if, pf_push, pf_zret, pf_ald, pf_dup, pf_getf, pf_push, pf_bin, pf_puti, pf_ald, pf_push, pf_puti, pf_ald, pf_push, pf_puti, pf_push, pf_zret, trivial⟩
set_option maxRecDepth 100000 in
theorem F_218 : pAll pFo 0 C_218 := ⟨pf_ald, pf_push, pf_puti, pf_ald, pf_ald, pf_getf, pf_callV, pf_ist, pf_ald, pf_ald, pf_getf, pf_callV, pf_ist, pf_ald, pf_push, pf_puti, pf_ald, pf_ild, pf_callV, pf_ald, pf_ild, pf_callV, pf_ald, pf_callV, pf_if, pf_push, pf_goto, pf_push, pf_iret, trivial⟩
set_option maxRecDepth 100000 in
theorem F_219 : pAll pFo 0 C_219 := ⟨pf_ald, pf_push, pf_puti, pf_ald, pf_ald, pf_getf, pf_ald, pf_getf, pf_push, pf_callV, pf_ald, pf_push, pf_puti, pf_push, pf_ist, pf_ald, pf_getf, pf_if, pf_push, pf_goto, pf_push, pf_ist, pf_ild, pf_if, pf_ald, pf_callV, pf_if, pf_ald, pf_callV, pf_push, pf_push, pf_callS, pf_if, pf_ald, pf_ald, pf_getf, pf_callV, pf_ald, pf_getf, pf_push, pf_ild, pf_bin, pf_ald, pf_callV, pf_push, pf_bin, pf_set, pf_ald, pf_dup, pf_getf, pf_push, pf_bin, pf_puti, pf_ald, pf_push, pf_callV, pf_ald, pf_getf, pf_push, pf_ild, pf_bin, pf_push, pf_bin, pf_ald, pf_push, pf_push, pf_push, pf_callV, pf_set, pf_inc, pf_ald, pf_push, pf_callV, pf_ist, pf_goto, pf_ald, pf_getf, pf_ald, pf_getf, pf_if2, pf_ald, pf_ald, pf_getf, pf_callV, pf_ald, pf_callV, pf_if, pf_push, pf_ald, pf_getf, pf_bin, pf_iret, pf_push, pf_ist, pf_push, pf_ist, pf_ild, pf_ild, pf_if2, pf_ald, pf_ald, pf_getf, pf_push, pf_ild, pf_bin, pf_get, pf_ald, pf_getf, pf_push, pf_ild, pf_bin, pf_push, pf_bin, pf_get, pf_callV, pf_if, pf_ald, pf_ald, pf_getf, pf_push, pf_ild, pf_bin, pf_get, pf_callV, pf_ild, pf_ald, pf_ald, pf_getf, pf_push, pf_ild, pf_bin, pf_get, pf_ald, pf_getf, pf_push, pf_ild, pf_bin, pf_push, pf_bin, pf_get, pf_callV, pf_bin, pf_ist, pf_inc, pf_goto, pf_ald, pf_push, pf_puti, pf_ald, pf_ild, pf_ild, pf_if2, pf_push, pf_goto, pf_ald, pf_callV, pf_if, pf_push, pf_goto, pf_push, pf_callV, pf_ald, pf_ild, pf_callV, pf_ild, pf_iret, trivial⟩
set_option maxRecDepth 100000 in
theorem F_220 : pAll pFo 0 C_220 := ⟨pf_ald, pf_push, pf_puti, pf_ald, pf_getf, pf_if, pf_push, pf_iret, pf_ald, pf_dup, pf_getf, pf_push, pf_bin, pf_puti, pf_ald, pf_getf, pf_ald, pf_getf, pf_push, pf_ald, pf_getf, pf_bin, pf_get, pf_ald, pf_getf, pf_push, pf_ald, pf_getf, pf_bin, pf_push, pf_bin, pf_get, pf_set, pf_ald, pf_ald, pf_getf, pf_push, pf_ald, pf_getf, pf_bin, pf_push, pf_bin, pf_get, pf_puti, pf_ald, pf_getf, pf_iret, trivial⟩
set_option maxRecDepth 100000 in
theorem F_221 : pAll pFo 0 C_221 := ⟨pf_ald, pf_push, pf_puti, pf_ild, pf_push, pf_push, pf_callS, pf_if, pf_push, pf_iret, pf_push, pf_ist, pf_ild, pf_ald, pf_getf, pf_if2, pf_ald, pf_getf, pf_ild, pf_ald, pf_getf, pf_ild, pf_get, pf_set, pf_inc, pf_goto, pf_ald, pf_getf, pf_ist, pf_push, pf_ist, pf_push, pf_ist, pf_push, pf_ist, pf_ild, pf_ild, pf_if2, pf_ild, pf_push, pf_if2, pf_ild, pf_push, pf_ild, pf_bin, pf_bin, pf_push, pf_bin, pf_ist, pf_ald, pf_ild, pf_push, pf_div, pf_ild, pf_push, pf_div, pf_callV, pf_if, pf_ild, pf_ist, pf_goto, pf_ild, pf_ald, pf_ild, pf_push, pf_div, pf_ild, pf_push, pf_div, pf_callV, pf_bin, pf_ist, pf_inc, pf_goto, pf_ald, pf_ald, pf_getf, pf_callV, pf_if, pf_push, pf_goto, pf_push, pf_ist, pf_push, pf_ist, pf_ild, pf_ald, pf_getf, pf_if2, pf_ald, pf_getf, pf_ild, pf_ald, pf_getf, pf_ild, pf_get, pf_set, pf_inc, pf_goto, pf_ald, pf_ild, pf_puti, pf_ald, pf_push, pf_puti, pf_ald, pf_ild, pf_callV, pf_ald, pf_ild, pf_callV, pf_ild, pf_iret, trivial⟩
set_option maxRecDepth 100000 in
theorem F_222 : pAll pFo 0 C_222 := ⟨pf_ald, pf_push, pf_puti, pf_ald, pf_push, pf_push, pf_callV, pf_ald, pf_push, pf_puti, pf_push, pf_ist, pf_ild, pf_ald, pf_getf, pf_if2, pf_ald, pf_ald, pf_getf, pf_ild, pf_get, pf_callV, pf_inc, pf_goto, pf_ald, pf_getf, pf_iret, trivial⟩
set_option maxRecDepth 100000 in
theorem F_223 : pAll pFo 0 C_223 := ⟨pf_push, pf_ist, pf_push, pf_ist, pf_ild, pf_ald, pf_getf, pf_if2, pf_ild, pf_ild, pf_ild, pf_callS, pf_if, pf_ald, pf_getf, pf_ild, pf_get, pf_goto, pf_push, pf_bin, pf_ist, pf_inc, pf_goto, pf_ild, pf_iret, trivial⟩
set_option maxRecDepth 100000 in
theorem F_224 : pAll pFo 0 C_224 := ⟨pf_ald, pf_push, pf_puti, pf_ald, pf_getf, pf_if, pf_push, pf_iret, pf_ald, pf_push, pf_push, pf_callV, pf_push, pf_ist, pf_push, pf_ist, pf_ild, pf_ald, pf_getf, pf_if2, pf_ald, pf_ald, pf_getf, pf_ild, pf_get, pf_callV, pf_ald, pf_ald, pf_getf, pf_ild, pf_get, pf_callV, pf_if2, pf_ild, pf_ist, pf_inc, pf_goto, pf_push, pf_ist, pf_push, pf_ist, pf_ild, pf_ald, pf_getf, pf_if2, pf_ild, pf_ald, pf_getf, pf_ild, pf_get, pf_ald, pf_ald, pf_getf, pf_ild, pf_get, pf_callV, pf_if2, pf_push, pf_ild, pf_bin, pf_goto, pf_push, pf_bin, pf_ist, pf_inc, pf_goto, pf_ald, pf_push, pf_puti, pf_ald, pf_ald, pf_ald, pf_getf, pf_ild, pf_get, pf_callV, pf_callV, pf_ald, pf_ild, pf_callV, pf_ild, pf_iret, trivial⟩
set_option maxRecDepth 100000 in
theorem F_225 : pAll pFo 0 C_225 := ⟨pf_ald, pf_push, pf_puti, pf_ald, pf_ild, pf_callV, pf_if, pf_push, pf_iret, pf_ald, pf_push, pf_push, pf_ild, pf_bin, pf_callV, pf_push, pf_ist, pf_push, pf_ist, pf_ild, pf_ald, pf_getf, pf_if2, pf_ild, pf_ald, pf_getf, pf_ild, pf_get, pf_push, pf_ild, pf_bin, pf_if2, pf_push, pf_ild, pf_bin, pf_goto, pf_push, pf_bin, pf_ist, pf_inc, pf_goto, pf_ald, pf_push, pf_puti, pf_ald, pf_ild, pf_callV, pf_ald, pf_getf, pf_iret, trivial⟩
set_option maxRecDepth 100000 in
theorem F_226 : pAll pFo 0 C_226 := ⟨pf_ald, pf_push, pf_puti, pf_ald, pf_ild, pf_callV, pf_if, pf_push, pf_iret, pf_push, pf_ist, pf_ild, pf_ald, pf_getf, pf_if2, pf_ald, pf_getf, pf_ild, pf_dup2, pf_get, pf_push, pf_ild, pf_bin, pf_push, pf_bin, pf_bin, pf_set, pf_inc, pf_goto, pf_ald, pf_push, pf_push, pf_callV, pf_ald, pf_getf, pf_iret, trivial⟩
set_option maxRecDepth 100000 in
theorem F_227 : pAll pFo 0 C_227 := ⟨pf_ald, pf_push, pf_puti, pf_ald, pf_push, pf_push, pf_callV, pf_ald, pf_getf, pf_ist, pf_push, pf_ist, pf_push, pf_ist, pf_ild, pf_ald, pf_getf, pf_if2, pf_ald, pf_push, pf_ild, pf_bin, pf_push, pf_callV, pf_ild, pf_ald, pf_getf, pf_ild, pf_if2, pf_push, pf_ild, pf_bin, pf_goto, pf_push, pf_bin, pf_ist, pf_inc, pf_goto, pf_ild, pf_iret, trivial⟩
set_option maxRecDepth 100000 in
theorem F_228 : pAll pFo 0 C_228 := ⟨pf_ald, pf_push, pf_push, pf_callV, pf_ald, pf_push, pf_puti, pf_push, pf_ist, pf_ild, pf_ald, pf_getf, pf_if2, pf_ald, pf_push, pf_ald, pf_getf, pf_ald, pf_getf, pf_bin, pf_mm, pf_puti, pf_inc, pf_goto, pf_ald, pf_getf, pf_push, pf_if2, pf_push, pf_goto, pf_push, pf_zret, trivial⟩
set_option maxRecDepth 100000 in
theorem F_229 : pAll pFo 0 C_229 := ⟨pf_ald, pf_push, pf_puti, pf_vret, trivial⟩
set_option maxRecDepth 100000 in
theorem F_230 : pAll pFo 0 C_230 := ⟨pf_ald, pf_dup, pf_getf, pf_push, pf_bin, pf_puti, pf_ald, pf_getf, pf_ald, pf_getf, pf_if2, pf_ald, pf_callV, pf_if, pf_push, pf_zret, pf_ald, pf_dup, pf_getf, pf_push, pf_bin, pf_puti, pf_goto, pf_push, pf_zret, trivial⟩
set_option maxRecDepth 100000 in
theorem F_231 : pAll pFo 0 C_231 := ⟨pf_ald, pf_getf, pf_ist, pf_ald, pf_getf, pf_push, pf_bin, pf_ist, pf_ild, pf_if, pf_ald, pf_getf, pf_ild, pf_ald, pf_getf, pf_ild, pf_callS, pf_if, pf_push, pf_goto, pf_ild, pf_ald, pf_getf, pf_div, pf_set, pf_ild, pf_ald, pf_getf, pf_div, pf_ist, pf_inc, pf_goto, pf_push, pf_ist, pf_ild, pf_ald, pf_getf, pf_if2, pf_ald, pf_getf, pf_ild, pf_ald, pf_getf, pf_ald, pf_getf, pf_ild, pf_get, pf_get, pf_set, pf_inc, pf_goto, pf_push, pf_ist, pf_ild, pf_ald, pf_getf, pf_if2, pf_ald, pf_ald, pf_getf, pf_ild, pf_callV, pf_if, pf_push, pf_zret, pf_inc, pf_goto, pf_push, pf_zret, trivial⟩
set_option maxRecDepth 100000 in
theorem F_232 : pAll pFo 0 C_232 := ⟨pf_push, pf_ist, pf_ild, pf_ald, pf_getf, pf_if2, pf_ald, pf_ald, pf_ild, pf_get, pf_callV, pf_inc, pf_goto, pf_vret, trivial⟩
set_option maxRecDepth 100000 in
theorem F_233 : pAll pFo 0 C_233 := ⟨pf_push, pf_ist, pf_ild, pf_ald, pf_getf, pf_if2, pf_ald, pf_getf, pf_ild, pf_ald, pf_getf, pf_ild, pf_get, pf_set, pf_inc, pf_goto, pf_vret, trivial⟩
set_option maxRecDepth 100000 in
theorem F_234 : pAll pFo 0 C_234 := ⟨pf_ald, pf_push, pf_puti, pf_ald, pf_callV, pf_if, pf_push, pf_iret, pf_push, pf_ist, pf_ald, pf_callV, pf_ald, pf_callV, pf_if, pf_ild, pf_if, pf_ald, pf_callV, pf_inc, pf_goto, pf_ald, pf_push, pf_puti, pf_ild, pf_if, pf_ald, pf_ald, pf_getf, pf_callV, pf_ild, pf_iret, trivial⟩
set_option maxRecDepth 100000 in
theorem F_235 : pAll pFo 0 C_235 := ⟨pf_ald, pf_push, pf_puti, pf_ald, pf_ald, pf_getf, pf_callV, pf_iret, trivial⟩
set_option maxRecDepth 100000 in
theorem F_236 : pAll pFo 0 C_236 := ⟨pf_ald, pf_push, pf_puti, pf_ald, pf_callV, pf_if, pf_push, pf_iret, pf_push, pf_ist, pf_push, pf_ist, pf_ald, pf_callV, pf_ald, pf_callV, pf_if, pf_ald, pf_ald, pf_getf, pf_callV, pf_ist, pf_ild, pf_if, pf_ild, pf_ild, pf_if2, pf_goto, pf_push, pf_ist, pf_ild, pf_ist, pf_ald, pf_callV, pf_goto, pf_ild, pf_if, pf_push, pf_iret, pf_ald, pf_push, pf_puti, pf_ald, pf_ild, pf_callV, pf_ald, pf_ald, pf_getf, pf_callV, pf_push, pf_iret, trivial⟩
set_option maxRecDepth 100000 in
theorem F_237 : pAll pFo 0 C_237 := ⟨pf_ald, pf_callV, pf_if, pf_push, pf_iret, pf_push, pf_ist, pf_ald, pf_callV, pf_ald, pf_callV, pf_if, pf_ild, pf_push, pf_if2, pf_ald, pf_ald, pf_getf, pf_ild, pf_callV, pf_ild, pf_if2, pf_goto, pf_ald, pf_ald, pf_getf, pf_push, pf_ald, pf_getf, pf_push, pf_callV, pf_ist, pf_ild, pf_ild, pf_if2, pf_goto, pf_ild, pf_ist, pf_ald, pf_callV, pf_goto, pf_ild, pf_push, pf_if2, pf_push, pf_iret, pf_ald, pf_push, pf_puti, pf_ald, pf_ald, pf_getf, pf_callV, pf_ild, pf_iret, trivial⟩
set_option maxRecDepth 100000 in
theorem F_238 : pAll pFo 0 C_238 := ⟨pf_ald, pf_push, pf_puti, pf_ald, pf_push, pf_push, pf_callV, pf_iret, trivial⟩
set_option maxRecDepth 100000 in
theorem F_239 : pAll pFo 0 C_239 := ⟨pf_ald, pf_push, pf_puti, pf_ald, pf_ild, pf_callV, pf_if, pf_ild, pf_push, pf_push, pf_callS, pf_if, pf_ald, pf_ild, pf_ild, pf_callV, pf_goto, pf_push, pf_iret, trivial⟩
set_option maxRecDepth 100000 in
theorem F_240 : pAll pFo 0 C_240 := ⟨pf_ald, pf_push, pf_puti, pf_ald, pf_getf, pf_if, pf_push, pf_iret, pf_ald, pf_callV, pf_if, pf_push, pf_iret, pf_push, pf_ist, pf_push, pf_ist, pf_ald, pf_callV, pf_ald, pf_callV, pf_if, pf_push, pf_ist, pf_ild, pf_ald, pf_getf, pf_if2, pf_ald, pf_ald, pf_getf, pf_ild, pf_callV, pf_ist, pf_ild, pf_ild, pf_if2, pf_ild, pf_ild, pf_if2, pf_ild, pf_ild, pf_if2, pf_goto, pf_ild, pf_ist, pf_ild, pf_ist, pf_ald, pf_callV, pf_inc, pf_goto, pf_goto, pf_ild, pf_push, pf_if2, pf_push, pf_iret, pf_ald, pf_push, pf_puti, pf_ald, pf_ild, pf_callV, pf_ald, pf_ald, pf_getf, pf_callV, pf_ild, pf_iret, trivial⟩
set_option maxRecDepth 100000 in
theorem F_241 : pAll pFo 0 C_241 := ⟨pf_ald, pf_push, pf_puti, pf_ild, pf_push, pf_push, pf_callS, pf_if, pf_ild, pf_push, pf_push, pf_ald, pf_getf, pf_bin, pf_push, pf_bin, pf_callS, pf_if, pf_push, pf_iret, pf_ald, pf_callV, pf_if, pf_push, pf_iret, pf_push, pf_ist, pf_push, pf_ist, pf_ild, pf_ald, pf_getf, pf_if2, pf_ild, pf_ild, pf_ild, pf_callS, pf_if, pf_ald, pf_getf, pf_ild, pf_get, pf_goto, pf_push, pf_bin, pf_ist, pf_inc, pf_goto, pf_push, pf_ist, pf_ald, pf_callV, pf_ald, pf_callV, pf_if, pf_push, pf_ist, pf_ild, pf_ald, pf_getf, pf_if2, pf_ald, pf_ald, pf_getf, pf_ild, pf_callV, pf_ild, pf_if2, pf_push, pf_goto, pf_push, pf_ist, pf_push, pf_ist, pf_ild, pf_ald, pf_getf, pf_if2, pf_ild, pf_if, pf_ild, pf_ild, pf_callS, pf_if, pf_ald, pf_getf, pf_ild, pf_get, pf_ild, pf_if2, pf_push, pf_goto, pf_push, pf_ist, pf_inc, pf_goto, pf_ild, pf_ild, pf_if, pf_push, pf_ild, pf_bin, pf_goto, pf_push, pf_bin, pf_ist, pf_inc, pf_goto, pf_goto, pf_ild, pf_iret, trivial⟩
set_option maxRecDepth 100000 in
theorem F_242 : pAll pFo 0 C_242 := ⟨pf_ald, pf_push, pf_puti, pf_ald, pf_push, pf_push, pf_callV, pf_ild, pf_push, pf_ald, pf_getf, pf_push, pf_bin, pf_callS, pf_if, pf_push, pf_iret, pf_ald, pf_callV, pf_if, pf_push, pf_iret, pf_ald, pf_getf, pf_ild, pf_get, pf_callS, pf_ist, pf_push, pf_ist, pf_push, pf_ist, pf_ald, pf_callV, pf_ald, pf_callV, pf_if, pf_ild, pf_push, pf_ald, pf_getf, pf_ild, pf_get, pf_bin, pf_bin, pf_ist, pf_ild, pf_ald, pf_getf, pf_ild, pf_get, pf_ald, pf_getf, pf_ild, pf_get, pf_if2, pf_push, pf_goto, pf_push, pf_bin, pf_ist, pf_goto, pf_ald, pf_push, pf_puti, pf_ald, pf_ild, pf_callV, pf_ild, pf_iret, trivial⟩
set_option maxRecDepth 100000 in
theorem F_243 : pAll pFo 0 C_243 := ⟨pf_ald, pf_push, pf_puti, pf_ald, pf_ild, pf_callV, pf_if, pf_ald, pf_ild, pf_callV, pf_if, pf_ild, pf_ild, pf_if2, pf_push, pf_iret, pf_ald, pf_callV, pf_if, pf_push, pf_iret, pf_push, pf_ist, pf_push, pf_ist, pf_ald, pf_callV, pf_ald, pf_callV, pf_if, pf_inc, pf_ild, pf_ald, pf_getf, pf_ild, pf_get, pf_ald, pf_getf, pf_ild, pf_get, pf_if2, pf_push, pf_goto, pf_push, pf_bin, pf_ist, pf_goto, pf_ald, pf_push, pf_puti, pf_ald, pf_ild, pf_callV, pf_ild, pf_iret, trivial⟩
set_option maxRecDepth 100000 in
theorem F_244 : pAll pFo 0 C_244 := ⟨pf_ald, pf_push, pf_puti, pf_ald, pf_ild, pf_callV, pf_if, pf_push, pf_iret, pf_ald, pf_callV, pf_if, pf_push, pf_iret, pf_push, pf_ist, pf_ald, pf_callV, pf_ald, pf_callV, pf_if, pf_ald, pf_getf, pf_ild, pf_get, pf_ald, pf_ald, pf_getf, pf_ild, pf_callV, pf_bin, pf_ist, pf_ild, pf_ild, pf_if2, pf_goto, pf_ild, pf_ist, pf_ald, pf_callV, pf_goto, pf_ild, pf_push, pf_if2, pf_push, pf_iret, pf_ald, pf_push, pf_puti, pf_ald, pf_ald, pf_getf, pf_callV, pf_ild, pf_iret, trivial⟩
set_option maxRecDepth 100000 in
theorem F_245 : pAll pFo 0 C_245 := ⟨pf_ald, pf_push, pf_puti, pf_ald, pf_ild, pf_callV, pf_if, pf_ald, pf_ild, pf_callV, pf_if, pf_ild, pf_ild, pf_if2, pf_push, pf_iret, pf_push, pf_ist, pf_ild, pf_ald, pf_getf, pf_if2, pf_ald, pf_getf, pf_ild, pf_ald, pf_getf, pf_ild, pf_get, pf_ild, pf_if2, pf_ild, pf_goto, pf_ald, pf_getf, pf_ild, pf_get, pf_ild, pf_if2, pf_ild, pf_goto, pf_ald, pf_getf, pf_ild, pf_get, pf_set, pf_inc, pf_goto, pf_ald, pf_ald, pf_getf, pf_push, pf_ald, pf_getf, pf_push, pf_callV, pf_ist, pf_ald, pf_push, pf_puti, pf_ald, pf_ild, pf_push, pf_if2, pf_push, pf_goto, pf_ild, pf_callV, pf_ald, pf_ald, pf_getf, pf_callV, pf_if, pf_push, pf_goto, pf_push, pf_iret, trivial⟩
set_option maxRecDepth 100000 in
theorem F_246 : pAll pFo 0 C_246 := ⟨pf_ald, pf_push, pf_puti, pf_ald, pf_callV, pf_if, pf_push, pf_iret, pf_push, pf_ist, pf_push, pf_ist, pf_ild, pf_push, pf_ald, pf_getf, pf_bin, pf_if2, pf_push, pf_ist, pf_push, pf_ist, pf_ild, pf_ald, pf_getf, pf_if2, pf_ild, pf_ild, pf_ild, pf_callS, pf_if, pf_ald, pf_getf, pf_ild, pf_get, pf_goto, pf_push, pf_bin, pf_ist, pf_inc, pf_goto, pf_ild, pf_push, pf_if2, pf_ald, pf_ild, pf_ild, pf_callV, pf_if, pf_goto, pf_ald, pf_ild, pf_puti, pf_ild, pf_push, pf_ald, pf_getf, pf_bin, pf_push, pf_bin, pf_if2, pf_push, pf_goto, pf_push, pf_ist, pf_ild, pf_if, pf_ald, pf_callV, pf_ald, pf_callV, pf_ist, pf_ild, pf_if, pf_ild, pf_ist, pf_inc, pf_goto, pf_ald, pf_push, pf_puti, pf_ald, pf_push, pf_puti, pf_ald, pf_ild, pf_callV, pf_ild, pf_callS, pf_iret, trivial⟩
set_option maxRecDepth 100000 in
theorem F_247 : pAll pFo 0 C_247 := ⟨pf_ild, pf_callS, pf_ild, pf_callS, pf_bin, pf_ist, pf_ild, pf_if, pf_ild, pf_if, pf_push, pf_goto, pf_push, pf_zret, pf_ald, pf_ild, pf_callV, pf_ald, pf_ild, pf_callV, pf_bin, pf_ist, pf_ild, pf_if, pf_ild, pf_if, pf_push, pf_goto, pf_push, pf_goto, pf_ild, pf_ild, pf_if2, pf_push, pf_goto, pf_push, pf_zret, trivial⟩
set_option maxRecDepth 100000 in
theorem F_248 : pAll pFo 0 C_248 := ⟨pf_ald, pf_push, pf_puti, pf_ald, pf_getf, pf_if, pf_push, pf_iret, pf_ald, pf_callV, pf_if, pf_push, pf_iret, pf_push, pf_ist, pf_push, pf_ist, pf_push, pf_ist, pf_ild, pf_ald, pf_getf, pf_if2, pf_push, pf_ist, pf_ild, pf_ist, pf_ild, pf_ild, pf_if2, pf_ild, pf_ild, pf_bin, pf_push, pf_div, pf_ist, pf_ald, pf_ild, pf_ild, pf_callV, pf_if, pf_ild, pf_ist, pf_goto, pf_ild, pf_push, pf_bin, pf_ist, pf_goto, pf_ild, pf_ild, pf_if2, pf_goto, pf_ild, pf_ist, pf_ild, pf_ist, pf_inc, pf_goto, pf_ild, pf_push, pf_if2, pf_push, pf_iret, pf_ald, pf_push, pf_puti, pf_ald, pf_ild, pf_if, pf_push, pf_goto, pf_ild, pf_callV, pf_ild, pf_iret, trivial⟩
set_option maxRecDepth 100000 in
theorem F_249 : pAll pFo 0 C_249 := ⟨pf_ald, pf_getf, pf_ild, pf_dup2, pf_get, pf_ild, pf_bin, pf_set, pf_ald, pf_callV, pf_ald, pf_callV, pf_ist, pf_ald, pf_getf, pf_ild, pf_dup2, pf_get, pf_ild, pf_bin, pf_set, pf_ild, pf_zret, trivial⟩
set_option maxRecDepth 100000 in
theorem F_250 : pAll pFo 0 C_250 := ⟨pf_ald, pf_push, pf_puti, pf_ald, pf_ild, pf_callV, pf_if, pf_ald, pf_ild, pf_callV, pf_if, pf_push, pf_iret, pf_ald, pf_ild, pf_ald, pf_getf, pf_ild, pf_get, pf_callV, pf_ald, pf_getf, pf_ald, pf_getf, pf_ild, pf_get, pf_get, pf_ist, pf_ild, pf_push, pf_if2, pf_push, pf_iret, pf_ald, pf_push, pf_puti, pf_ald, pf_getf, pf_ild, pf_get, pf_ist, pf_ild, pf_push, pf_bin, pf_ist, pf_ild, pf_if, pf_push, pf_ist, pf_ald, pf_getf, pf_ild, pf_get, pf_ild, pf_if2, pf_ald, pf_getf, pf_push, pf_ild, pf_bin, pf_ild, pf_bin, pf_get, pf_ald, pf_getf, pf_ild, pf_get, pf_if2, pf_inc, pf_goto, pf_ald, pf_ild, pf_callV, pf_ild, pf_ist, pf_inc, pf_goto, pf_ild, pf_iret, trivial⟩
set_option maxRecDepth 100000 in
theorem F_251 : pAll pFo 0 C_251 := ⟨pf_ald, pf_push, pf_puti, pf_ald, pf_ild, pf_callV, pf_if, pf_ald, pf_ild, pf_callV, pf_if, pf_push, pf_iret, pf_push, pf_ist, pf_ild, pf_if, pf_ald, pf_ild, pf_ild, pf_callV, pf_ald, pf_getf, pf_ild, pf_get, pf_push, pf_if2, pf_ild, pf_iret, pf_inc, pf_goto, pf_push, pf_iret, trivial⟩
set_option maxRecDepth 100000 in
theorem F_252 : pAll pFo 0 C_252 := ⟨pf_ald, pf_push, pf_puti, pf_push, pf_ist, pf_push, pf_ist, pf_ild, pf_ald, pf_getf, pf_if2, pf_push, pf_ist, pf_ild, pf_ald, pf_getf, pf_if2, pf_ild, pf_ald, pf_ild, pf_ald, pf_getf, pf_ild, pf_get, pf_ild, pf_callV, pf_push, pf_if2, pf_push, pf_ild, pf_bin, pf_goto, pf_push, pf_bin, pf_ist, pf_inc, pf_goto, pf_inc, pf_goto, pf_ild, pf_iret, trivial⟩
set_option maxRecDepth 100000 in
theorem F_253 : pAll pFo 0 C_253 := ⟨pf_push, pf_ist, pf_push, pf_ist, pf_ild, pf_ald, pf_getf, pf_if2, pf_ild, pf_ald, pf_ild, pf_ald, pf_getf, pf_ild, pf_get, pf_ild, pf_callV, pf_push, pf_if2, pf_push, pf_goto, pf_push, pf_bin, pf_ist, pf_inc, pf_goto, pf_ild, pf_iret, trivial⟩
set_option maxRecDepth 100000 in
theorem F_254 : pAll pFo 0 C_254 := ⟨pf_ald, pf_push, pf_puti, pf_ald, pf_ild, pf_callV, pf_if, pf_push, pf_iret, pf_push, pf_ist, pf_push, pf_ist, pf_push, pf_ist, pf_push, pf_ist, pf_ild, pf_ald, pf_getf, pf_if2, pf_ild, pf_push, pf_bin, pf_ist, pf_ild, pf_ald, pf_getf, pf_if2, pf_ald, pf_getf, pf_push, pf_ild, pf_bin, pf_ild, pf_bin, pf_get, pf_ist, pf_ild, pf_if, pf_goto, pf_ald, pf_ild, pf_ild, pf_push, pf_callV, pf_ald, pf_ild, pf_callV, pf_ist, pf_ald, pf_ild, pf_ild, pf_ild, pf_callV, pf_ild, pf_if, pf_ild, pf_ild, pf_if2, pf_goto, pf_ild, pf_ist, pf_ild, pf_ist, pf_ild, pf_ist, pf_inc, pf_goto, pf_inc, pf_goto, pf_ild, pf_if, pf_push, pf_iret, pf_ald, pf_push, pf_puti, pf_ald, pf_ild, pf_callV, pf_ald, pf_ild, pf_callV, pf_ild, pf_iret, trivial⟩
set_option maxRecDepth 100000 in
theorem F_255 : pAll pFo 0 C_255 := ⟨pf_ald, pf_push, pf_puti, pf_ald, pf_getf, pf_ist, pf_ald, pf_push, pf_puti, pf_ild, pf_if, pf_ald, pf_push, pf_putz, pf_push, pf_iret, pf_push, pf_ist, pf_ild, pf_ild, pf_if2, pf_ild, pf_ald, pf_getf, pf_if2, pf_ald, pf_getf, pf_ild, pf_get, pf_push, pf_push, pf_ald, pf_getf, pf_bin, pf_push, pf_bin, pf_callS, pf_if, pf_push, pf_ild, pf_bin, pf_iret, pf_inc, pf_goto, pf_ild, pf_ald, pf_getf, pf_if2, pf_push, pf_ild, pf_bin, pf_iret, pf_push, pf_ist, pf_ild, pf_ild, pf_if2, pf_ald, pf_getf, pf_ild, pf_ald, pf_getf, pf_ild, pf_get, pf_push, pf_bin, pf_set, pf_inc, pf_goto, pf_ald, pf_ild, pf_puti, pf_ald, pf_push, pf_putz, pf_ild, pf_iret, trivial⟩
set_option maxRecDepth 100000 in
theorem F_256 : pAll pFo 0 C_256 := ⟨pf_ald, pf_getf, pf_if, pf_ald, pf_getf, pf_ald, pf_getf, pf_if2, pf_push, pf_goto, pf_push, pf_zret, trivial⟩
set_option maxRecDepth 100000 in
theorem F_257 : pAll pFo 0 C_257 := ⟨pf_ald, pf_push, pf_puti, pf_ald, pf_callV, pf_if, pf_push, pf_iret, pf_ald, pf_ald, pf_getf, pf_push, pf_ald, pf_getf, pf_push, pf_callV, pf_ist, pf_ild, pf_push, pf_if2, pf_push, pf_iret, pf_ald, pf_push, pf_puti, pf_ald, pf_ald, pf_ald, pf_getf, pf_callV, pf_if, pf_push, pf_goto, pf_push, pf_callV, pf_ild, pf_iret, trivial⟩
set_option maxRecDepth 100000 in
theorem F_258 : pAll pFo 0 C_258 := ⟨pf_push, pf_ist, pf_ild, pf_ald, pf_getf, pf_if2, pf_ald, pf_getf, pf_ild, pf_ild, pf_ald, pf_getf, pf_ild, pf_get, pf_callS, pf_if, pf_ald, pf_getf, pf_ild, pf_get, pf_goto, pf_ald, pf_getf, pf_ild, pf_get, pf_set, pf_inc, pf_goto, pf_ald, pf_ald, pf_getf, pf_callV, pf_zret, trivial⟩
set_option maxRecDepth 100000 in
theorem F_259 : pAll pFo 0 C_259 := ⟨pf_ald, pf_push, pf_puti, pf_ald, pf_callV, pf_if, pf_push, pf_iret, pf_ald, pf_ald, pf_getf, pf_callV, pf_if, pf_ald, pf_ald, pf_getf, pf_callV, pf_if, pf_push, pf_iret, pf_ald, pf_ald, pf_getf, pf_push, pf_ald, pf_getf, pf_push, pf_callV, pf_push, pf_if2, pf_push, pf_iret, pf_ald, pf_push, pf_push, pf_callV, pf_push, pf_ist, pf_push, pf_ist, pf_ild, pf_ald, pf_getf, pf_if2, pf_ild, pf_ald, pf_getf, pf_ild, pf_get, pf_ald, pf_getf, pf_ild, pf_get, pf_if2, pf_push, pf_ald, pf_getf, pf_ild, pf_get, pf_bin, pf_goto, pf_push, pf_bin, pf_ist, pf_inc, pf_goto, pf_ild, pf_ist, pf_ild, pf_if, pf_ild, pf_ild, pf_push, pf_bin, pf_bin, pf_if, pf_goto, pf_ald, pf_getf, pf_ild, pf_ild, pf_ild, pf_if2, pf_push, pf_goto, pf_push, pf_setz, pf_push, pf_ist, pf_ild, pf_ald, pf_getf, pf_if2, pf_ald, pf_getf, pf_ild, pf_get, pf_if, pf_ald, pf_getf, pf_ild, pf_ild, pf_ild, pf_push, pf_bin, pf_bin, pf_ild, pf_callS, pf_if, pf_ald, pf_getf, pf_ild, pf_push, pf_ild, pf_bin, pf_bin, pf_get, pf_if, pf_ald, pf_ild, pf_push, pf_ild, pf_bin, pf_bin, pf_callV, pf_if, pf_push, pf_goto, pf_push, pf_setz, pf_inc, pf_goto, pf_inc, pf_goto, pf_ald, pf_getf, pf_push, pf_get, pf_if, pf_push, pf_iret, pf_ald, pf_push, pf_puti, pf_push, pf_ist, pf_ild, pf_ild, pf_if2, pf_push, pf_ist, pf_ild, pf_ild, pf_push, pf_bin, pf_bin, pf_ild, pf_callS, pf_if, pf_ald, pf_getf, pf_ild, pf_push, pf_ild, pf_bin, pf_bin, pf_get, pf_if, pf_ald, pf_ild, pf_push, pf_ild, pf_bin, pf_bin, pf_callV, pf_if, pf_inc, pf_goto, pf_ald, pf_ild, pf_callV, pf_ild, pf_push, pf_ild, pf_bin, pf_bin, pf_ist, pf_goto, pf_ild, pf_callS, pf_iret, trivial⟩
set_option maxRecDepth 100000 in
theorem F_260 : pAll pFo 0 C_260 := ⟨pf_ald, pf_callV, pf_if, pf_push, pf_zret, pf_push, pf_ist, pf_ild, pf_ald, pf_getf, pf_if2, pf_ald, pf_getf, pf_ild, pf_ald, pf_getf, pf_ild, pf_get, pf_set, pf_inc, pf_goto, pf_ald, pf_push, pf_puti, pf_ald, pf_push, pf_puti, pf_ald, pf_callV, pf_ald, pf_callV, pf_if, pf_ald, pf_getf, pf_push, pf_if2, pf_push, pf_zret, pf_push, pf_ist, pf_push, pf_ist, pf_ild, pf_ald, pf_getf, pf_if2, pf_ald, pf_getf, pf_push, pf_ald, pf_getf, pf_bin, pf_ild, pf_bin, pf_ald, pf_getf, pf_ild, pf_get, pf_set, pf_ild, pf_if, pf_ald, pf_getf, pf_ild, pf_get, pf_ald, pf_getf, pf_ild, pf_get, pf_if2, pf_push, pf_goto, pf_push, pf_ist, pf_inc, pf_goto, pf_ald, pf_ild, pf_if, pf_ald, pf_getf, pf_goto, pf_ald, pf_getf, pf_puti, pf_ald, pf_dup, pf_getf, pf_push, pf_bin, pf_puti, pf_goto, pf_push, pf_ist, pf_ild, pf_ald, pf_getf, pf_if2, pf_push, pf_ist, pf_ild, pf_ald, pf_getf, pf_if2, pf_ald, pf_getf, pf_push, pf_ild, pf_bin, pf_ild, pf_bin, pf_ald, pf_ald, pf_getf, pf_push, pf_ild, pf_bin, pf_ald, pf_getf, pf_push, pf_ild, pf_bin, pf_callV, pf_set, pf_inc, pf_goto, pf_inc, pf_goto, pf_push, pf_zret, trivial⟩
set_option maxRecDepth 100000 in
theorem F_261 : pAll pFo 0 C_261 := ⟨pf_push, pf_ist, pf_ild, pf_ald, pf_getf, pf_if2, pf_ald, pf_getf, pf_ild, pf_get, pf_ald, pf_getf, pf_ild, pf_get, pf_if2, pf_push, pf_zret, pf_inc, pf_goto, pf_push, pf_zret, trivial⟩
set_option maxRecDepth 100000 in
theorem F_262 : pAll pFo 0 C_262 := ⟨pf_push, pf_ist, pf_ild, pf_ald, pf_getf, pf_if2, pf_ald, pf_getf, pf_ild, pf_ild, pf_ald, pf_getf, pf_if2, pf_push, pf_goto, pf_push, pf_set, pf_ald, pf_getf, pf_ild, pf_ild, pf_ald, pf_getf, pf_if2, pf_push, pf_goto, pf_push, pf_set, pf_inc, pf_goto, pf_push, pf_ist, pf_push, pf_ist, pf_ild, pf_if, pf_push, pf_ist, pf_push, pf_ist, pf_ild, pf_ald, pf_getf, pf_if2, pf_ald, pf_getf, pf_ild, pf_get, pf_ild, pf_if2, pf_goto, pf_push, pf_ist, pf_ild, pf_ald, pf_getf, pf_if2, pf_ald, pf_getf, pf_push, pf_ild, pf_bin, pf_ild, pf_bin, pf_get, pf_ist, pf_ald, pf_getf, pf_ild, pf_get, pf_ild, pf_push, pf_bin, pf_if2, pf_ild, pf_ild, pf_if2, pf_ild, pf_push, pf_if2, pf_goto, pf_ald, pf_getf, pf_ild, pf_ild, pf_set, pf_ald, pf_getf, pf_ild, pf_ald, pf_getf, pf_ild, pf_get, pf_ald, pf_getf, pf_ild, pf_get, pf_ild, pf_bin, pf_mm, pf_set, pf_push, pf_ist, pf_inc, pf_goto, pf_inc, pf_goto, pf_inc, pf_goto, pf_vret, trivial⟩
set_option maxRecDepth 100000 in
theorem F_263 : pAll pFo 0 C_263 := ⟨pf_ald, pf_push, pf_puti, pf_ald, pf_callV, pf_if, pf_push, pf_iret, pf_ald, pf_callV, pf_if, pf_ald, pf_push, pf_puti, pf_ald, pf_push, pf_callV, pf_push, pf_iret, pf_ald, pf_callV, pf_if, pf_push, pf_iret, pf_ald, pf_getf, pf_push, pf_if2, pf_push, pf_iret, pf_ald, pf_ald, pf_getf, pf_callV, pf_ald, pf_getf, pf_push, pf_get, pf_push, pf_if2, pf_push, pf_iret, pf_push, pf_ist, pf_ald, pf_getf, pf_ild, pf_get, pf_ald, pf_getf, pf_push, pf_get, pf_push, pf_bin, pf_if2, pf_ald, pf_getf, pf_ild, pf_get, pf_ald, pf_getf, pf_if2, pf_ald, pf_getf, pf_ild, pf_get, pf_ald, pf_getf, pf_ild, pf_get, pf_bin, pf_ald, pf_getf, pf_push, pf_get, pf_if2, pf_inc, pf_goto, pf_ald, pf_push, pf_puti, pf_ald, pf_ald, pf_getf, pf_push, pf_get, pf_callV, pf_push, pf_ist, pf_ild, pf_ald, pf_getf, pf_if2, pf_ald, pf_ald, pf_getf, pf_push, pf_ild, pf_bin, pf_ild, pf_bin, pf_get, pf_callV, pf_inc, pf_goto, pf_ald, pf_getf, pf_push, pf_get, pf_iret, trivial⟩
set_option maxRecDepth 100000 in
theorem F_264 : pAll pFo 0 C_264 := ⟨pf_ald, pf_push, pf_puti, pf_ald, pf_callV, pf_if, pf_push, pf_iret, pf_ald, pf_callV, pf_if, pf_ald, pf_push, pf_puti, pf_ald, pf_push, pf_callV, pf_push, pf_iret, pf_ald, pf_callV, pf_if, pf_push, pf_iret, pf_ald, pf_getf, pf_push, pf_if2, pf_push, pf_iret, pf_push, pf_ist, pf_ild, pf_push, pf_if2, pf_ald, pf_ild, pf_callV, pf_if, pf_goto, pf_ald, pf_ild, pf_callV, pf_ald, pf_getf, pf_push, pf_get, pf_push, pf_if2, pf_goto, pf_ald, pf_push, pf_puti, pf_ald, pf_ald, pf_getf, pf_push, pf_get, pf_callV, pf_ild, pf_iret, pf_inc, pf_goto, pf_push, pf_iret, trivial⟩
set_option maxRecDepth 100000 in
theorem F_265 : pAll pFo 0 C_265 := ⟨pf_push, pf_ist, pf_ild, pf_ald, pf_getf, pf_if2, pf_push, pf_ist, pf_ild, pf_ald, pf_getf, pf_if2, pf_ald, pf_getf, pf_push, pf_ild, pf_bin, pf_ild, pf_bin, pf_get, pf_ild, pf_if2, pf_push, pf_zret, pf_inc, pf_goto, pf_inc, pf_goto, pf_push, pf_zret, trivial⟩
set_option maxRecDepth 100000 in
theorem F_266 : pAll pFo 0 C_266 := ⟨pf_ald, pf_push, pf_puti, pf_ild, pf_push, pf_push, pf_callS, pf_if, pf_push, pf_zret, pf_ald, pf_getf, pf_ild, pf_push, pf_setz, pf_ald, pf_getf, pf_ild, pf_ald, pf_getf, pf_set, pf_push, pf_ist, pf_ild, pf_push, pf_if2, pf_ald, pf_getf, pf_push, pf_ild, pf_bin, pf_ild, pf_bin, pf_ald, pf_getf, pf_ild, pf_get, pf_set, pf_inc, pf_goto, pf_ald, pf_getf, pf_push, pf_ild, pf_bin, pf_push, pf_bin, pf_ald, pf_getf, pf_set, pf_ald, pf_getf, pf_push, pf_ild, pf_bin, pf_push, pf_bin, pf_push, pf_bin, pf_ald, pf_getf, pf_set, pf_push, pf_zret, trivial⟩
set_option maxRecDepth 100000 in
theorem F_267 : pAll pFo 0 C_267 := ⟨pf_ald, pf_push, pf_puti, pf_ild, pf_push, pf_push, pf_callS, pf_if, pf_ald, pf_getf, pf_ild, pf_get, pf_if, pf_ald, pf_getf, pf_ild, pf_get, pf_ald, pf_getf, pf_if2, pf_push, pf_zret, pf_push, pf_ist, pf_ild, pf_ald, pf_getf, pf_if2, pf_ald, pf_getf, pf_ild, pf_ald, pf_getf, pf_push, pf_ild, pf_bin, pf_ild, pf_bin, pf_get, pf_set, pf_inc, pf_goto, pf_ald, pf_ald, pf_getf, pf_push, pf_ild, pf_bin, pf_push, pf_bin, pf_get, pf_puti, pf_ald, pf_ald, pf_getf, pf_push, pf_ild, pf_bin, pf_push, pf_bin, pf_push, pf_bin, pf_get, pf_puti, pf_ald, pf_push, pf_puti, pf_push, pf_zret, trivial⟩
set_option maxRecDepth 100000 in
theorem F_268 : pAll pFo 0 C_268 := ⟨pf_ald, pf_push, pf_puti, pf_push, pf_ist, pf_ild, pf_sw, pf_ald, pf_getf, pf_iret, pf_ald, pf_getf, pf_iret, pf_ald, pf_getf, pf_iret, pf_push, pf_ist, pf_ild, pf_ald, pf_getf, pf_if2, pf_ild, pf_ald, pf_ild, pf_callV, pf_ild, pf_bin, pf_callS, pf_bin, pf_ist, pf_inc, pf_goto, pf_ild, pf_iret, pf_ald, pf_getf, pf_iret, pf_ald, pf_getf, pf_iret, pf_ald, pf_ald, pf_getf, pf_callV, pf_iret, pf_ald, pf_ald, pf_getf, pf_callV, pf_iret, pf_ald, pf_getf, pf_iret, pf_ald, pf_getf, pf_iret, pf_ald, pf_getf, pf_iret, pf_ald, pf_getf, pf_iret, pf_push, pf_iret, trivial⟩
set_option maxRecDepth 100000 in
theorem F_269 : pAll pFo 0 C_269 := ⟨pf_ald, pf_push, pf_puti, pf_ild, pf_push, pf_ald, pf_getf, pf_push, pf_bin, pf_callS, pf_if, pf_ald, pf_getf, pf_ild, pf_get, pf_goto, pf_ald, pf_callV, pf_iret, trivial⟩
set_option maxRecDepth 100000 in
theorem F_270 : pAll pFo 0 C_270 := ⟨pf_ild, pf_ild, pf_push, pf_bin, pf_push, pf_bin, pf_bin, pf_ist, pf_ild, pf_push, pf_bin, pf_ild, pf_push, pf_bin, pf_push, pf_bin, pf_bin, pf_ist, pf_ild, pf_ild, pf_push, pf_bin, pf_bin, pf_push, pf_bin, pf_ist, pf_ild, pf_ild, pf_push, pf_bin, pf_bin, pf_ist, pf_ild, pf_ild, pf_push, pf_bin, pf_bin, pf_ist, pf_ild, pf_push, pf_bin, pf_iret, trivial⟩
set_option maxRecDepth 100000 in
theorem F_271 : pAll pFo 0 C_271 := ⟨pf_ild, pf_push, pf_bin, pf_ild, pf_push, pf_bin, pf_bin, pf_ist, pf_ild, pf_if, pf_ild, pf_push, pf_bin, pf_iret, pf_push, pf_ist, pf_ild, pf_push, pf_if2, pf_inc, pf_ild, pf_push, pf_bin, pf_ist, pf_ild, pf_push, pf_if2, pf_inc, pf_ild, pf_push, pf_bin, pf_ist, pf_ild, pf_push, pf_if2, pf_inc, pf_ild, pf_push, pf_bin, pf_ist, pf_ild, pf_push, pf_if2, pf_inc, pf_ild, pf_push, pf_bin, pf_ist, pf_ild, pf_ild, pf_push, pf_bin, pf_bin, pf_iret, trivial⟩
set_option maxRecDepth 100000 in
theorem F_272 : pAll pFo 0 C_272 := ⟨pf_ald, pf_ild, pf_push, pf_callW, pf_iret, trivial⟩
set_option maxRecDepth 100000 in
theorem F_273 : pAll pFo 0 C_273 := ⟨pf_ald, pf_callW, pf_if, pf_ald, pf_sfld, pf_ild, pf_ild, pf_ald, pf_callW, pf_callS, pf_goto, pf_ald, pf_sfld, pf_ild, pf_ild, pf_ald, pf_callW, pf_none, pf_iret, trivial⟩
set_option maxRecDepth 100000 in
theorem F_274 : pAll pFo 0 C_274 := ⟨pf_push, pf_if, pf_ald, pf_sfld, pf_if, pf_push, pf_goto, pf_push, pf_zret, trivial⟩
set_option maxRecDepth 100000 in
theorem F_275 : pAll pFo 0 C_275 := ⟨pf_ald, pf_sfld, pf_slen, pf_ald, pf_callW, pf_bin, pf_iret, trivial⟩
set_option maxRecDepth 100000 in
theorem F_276 : pAll pFo 0 C_276 := ⟨pf_push, pf_if, pf_ald, pf_sfld, pf_goto, pf_push, pf_zret, trivial⟩
set_option maxRecDepth 100000 in
theorem F_277 : pAll pFo 0 C_277 := ⟨pf_ild, pf_callS, pf_if, pf_push, pf_iret, pf_ild, pf_push, pf_mm, pf_ist, pf_ild, pf_ald, pf_slen, pf_mm, pf_ist, pf_ild, pf_ild, pf_if2, pf_push, pf_iret, pf_ald, pf_ild, pf_ild, pf_ild, pf_callS, pf_iret, trivial⟩
set_option maxRecDepth 100000 in
theorem F_278 : pAll pFo 0 C_278 := ⟨pf_ild, pf_if, pf_ild, pf_push, pf_if2, pf_push, pf_goto, pf_push, pf_zret, trivial⟩
set_option maxRecDepth 100000 in
theorem F_279 : pAll pFo 0 C_279 := ⟨pf_ild, pf_un, pf_ist, pf_ild, pf_ist, pf_ild, pf_ild, pf_if2, pf_ald, pf_ild, pf_sbld, pf_ild, pf_if2, pf_ild, pf_iret, pf_inc, pf_goto, pf_push, pf_iret, trivial⟩
abbrev pSo (k : Nat) : Nat → pS → Prop := fun i f => pSnd pyn pwk (pyn k).cls (pcc k) (pnl k) (prt k) (ppcs k) (ppcs k i) f
set_option maxRecDepth 100000 in
set_option maxHeartbeats 4000000 in
theorem F_all : ra_P (fun a b C => b = a + 1 ∧ pAll pFo 0 C) 0 281 pCT := ⟨⟨⟨⟨⟨⟨⟨⟨⟨rfl, F_0⟩, ⟨rfl, F_1⟩⟩, ⟨⟨rfl, F_2⟩, ⟨rfl, F_3⟩⟩⟩, ⟨⟨⟨rfl, F_4⟩, ⟨rfl, F_5⟩⟩, ⟨⟨rfl, F_6⟩, ⟨rfl, F_7⟩⟩⟩⟩, ⟨⟨⟨⟨rfl, F_8⟩, ⟨rfl, F_9⟩⟩, ⟨⟨rfl, F_10⟩, ⟨rfl, F_11⟩⟩⟩, ⟨⟨⟨rfl, F_12⟩, ⟨rfl, F_13⟩⟩, ⟨⟨rfl, F_14⟩, ⟨⟨rfl, F_15⟩, ⟨rfl, F_16⟩⟩⟩⟩⟩⟩, ⟨⟨⟨⟨⟨rfl, F_17⟩, ⟨rfl, F_18⟩⟩, ⟨⟨rfl, F_19⟩, ⟨rfl, F_20⟩⟩⟩, ⟨⟨⟨rfl, F_21⟩, ⟨rfl, F_22⟩⟩, ⟨⟨rfl, F_23⟩, ⟨⟨rfl, F_24⟩, ⟨rfl, F_25⟩⟩⟩⟩⟩, ⟨⟨⟨⟨rfl, F_26⟩, ⟨rfl, F_27⟩⟩, ⟨⟨rfl, F_28⟩, ⟨rfl, F_29⟩⟩⟩, ⟨⟨⟨rfl, F_30⟩, ⟨rfl, F_31⟩⟩, ⟨⟨rfl, F_32⟩, ⟨⟨rfl, F_33⟩, ⟨rfl, F_34⟩⟩⟩⟩⟩⟩⟩, ⟨⟨⟨⟨⟨⟨rfl, F_35⟩, ⟨rfl, F_36⟩⟩, ⟨⟨rfl, F_37⟩, ⟨rfl, F_38⟩⟩⟩, ⟨⟨⟨rfl, F_39⟩, ⟨rfl, F_40⟩⟩, ⟨⟨rfl, F_41⟩, ⟨rfl, F_42⟩⟩⟩⟩, ⟨⟨⟨⟨rfl, F_43⟩, ⟨rfl, F_44⟩⟩, ⟨⟨rfl, F_45⟩, ⟨rfl, F_46⟩⟩⟩, ⟨⟨⟨rfl, F_47⟩, ⟨rfl, F_48⟩⟩, ⟨⟨rfl, F_49⟩, ⟨⟨rfl, F_50⟩, ⟨rfl, F_51⟩⟩⟩⟩⟩⟩, ⟨⟨⟨⟨⟨rfl, F_52⟩, ⟨rfl, F_53⟩⟩, ⟨⟨rfl, F_54⟩, ⟨rfl, F_55⟩⟩⟩, ⟨⟨⟨rfl, F_56⟩, ⟨rfl, F_57⟩⟩, ⟨⟨rfl, F_58⟩, ⟨⟨rfl, F_59⟩, ⟨rfl, F_60⟩⟩⟩⟩⟩, ⟨⟨⟨⟨rfl, F_61⟩, ⟨rfl, F_62⟩⟩, ⟨⟨rfl, F_63⟩, ⟨rfl, F_64⟩⟩⟩, ⟨⟨⟨rfl, F_65⟩, ⟨rfl, F_66⟩⟩, ⟨⟨rfl, F_67⟩, ⟨⟨rfl, F_68⟩, ⟨rfl, F_69⟩⟩⟩⟩⟩⟩⟩⟩, ⟨⟨⟨⟨⟨⟨⟨rfl, F_70⟩, ⟨rfl, F_71⟩⟩, ⟨⟨rfl, F_72⟩, ⟨rfl, F_73⟩⟩⟩, ⟨⟨⟨rfl, F_74⟩, ⟨rfl, F_75⟩⟩, ⟨⟨rfl, F_76⟩, ⟨rfl, F_77⟩⟩⟩⟩, ⟨⟨⟨⟨rfl, F_78⟩, ⟨rfl, F_79⟩⟩, ⟨⟨rfl, F_80⟩, ⟨rfl, F_81⟩⟩⟩, ⟨⟨⟨rfl, F_82⟩, ⟨rfl, F_83⟩⟩, ⟨⟨rfl, F_84⟩, ⟨⟨rfl, F_85⟩, ⟨rfl, F_86⟩⟩⟩⟩⟩⟩, ⟨⟨⟨⟨⟨rfl, F_87⟩, ⟨rfl, F_88⟩⟩, ⟨⟨rfl, F_89⟩, ⟨rfl, F_90⟩⟩⟩, ⟨⟨⟨rfl, F_91⟩, ⟨rfl, F_92⟩⟩, ⟨⟨rfl, F_93⟩, ⟨⟨rfl, F_94⟩, ⟨rfl, F_95⟩⟩⟩⟩⟩, ⟨⟨⟨⟨rfl, F_96⟩, ⟨rfl, F_97⟩⟩, ⟨⟨rfl, F_98⟩, ⟨rfl, F_99⟩⟩⟩, ⟨⟨⟨rfl, F_100⟩, ⟨rfl, F_101⟩⟩, ⟨⟨rfl, F_102⟩, ⟨⟨rfl, F_103⟩, ⟨rfl, F_104⟩⟩⟩⟩⟩⟩⟩, ⟨⟨⟨⟨⟨⟨rfl, F_105⟩, ⟨rfl, F_106⟩⟩, ⟨⟨rfl, F_107⟩, ⟨rfl, F_108⟩⟩⟩, ⟨⟨⟨rfl, F_109⟩, ⟨rfl, F_110⟩⟩, ⟨⟨rfl, F_111⟩, ⟨rfl, F_112⟩⟩⟩⟩, ⟨⟨⟨⟨rfl, F_113⟩, ⟨rfl, F_114⟩⟩, ⟨⟨rfl, F_115⟩, ⟨rfl, F_116⟩⟩⟩, ⟨⟨⟨rfl, F_117⟩, ⟨rfl, F_118⟩⟩, ⟨⟨rfl, F_119⟩, ⟨⟨rfl, F_120⟩, ⟨rfl, F_121⟩⟩⟩⟩⟩⟩, ⟨⟨⟨⟨⟨rfl, F_122⟩, ⟨rfl, F_123⟩⟩, ⟨⟨rfl, F_124⟩, ⟨rfl, F_125⟩⟩⟩, ⟨⟨⟨rfl, F_126⟩, ⟨rfl, F_127⟩⟩, ⟨⟨rfl, F_128⟩, ⟨⟨rfl, F_129⟩, ⟨rfl, F_130⟩⟩⟩⟩⟩, ⟨⟨⟨⟨rfl, F_131⟩, ⟨rfl, F_132⟩⟩, ⟨⟨rfl, F_133⟩, ⟨rfl, F_134⟩⟩⟩, ⟨⟨⟨rfl, F_135⟩, ⟨rfl, F_136⟩⟩, ⟨⟨rfl, F_137⟩, ⟨⟨rfl, F_138⟩, ⟨rfl, F_139⟩⟩⟩⟩⟩⟩⟩⟩⟩, ⟨⟨⟨⟨⟨⟨⟨⟨rfl, F_140⟩, ⟨rfl, F_141⟩⟩, ⟨⟨rfl, F_142⟩, ⟨rfl, F_143⟩⟩⟩, ⟨⟨⟨rfl, F_144⟩, ⟨rfl, F_145⟩⟩, ⟨⟨rfl, F_146⟩, ⟨rfl, F_147⟩⟩⟩⟩, ⟨⟨⟨⟨rfl, F_148⟩, ⟨rfl, F_149⟩⟩, ⟨⟨rfl, F_150⟩, ⟨rfl, F_151⟩⟩⟩, ⟨⟨⟨rfl, F_152⟩, ⟨rfl, F_153⟩⟩, ⟨⟨rfl, F_154⟩, ⟨⟨rfl, F_155⟩, ⟨rfl, F_156⟩⟩⟩⟩⟩⟩, ⟨⟨⟨⟨⟨rfl, F_157⟩, ⟨rfl, F_158⟩⟩, ⟨⟨rfl, F_159⟩, ⟨rfl, F_160⟩⟩⟩, ⟨⟨⟨rfl, F_161⟩, ⟨rfl, F_162⟩⟩, ⟨⟨rfl, F_163⟩, ⟨⟨rfl, F_164⟩, ⟨rfl, F_165⟩⟩⟩⟩⟩, ⟨⟨⟨⟨rfl, F_166⟩, ⟨rfl, F_167⟩⟩, ⟨⟨rfl, F_168⟩, ⟨rfl, F_169⟩⟩⟩, ⟨⟨⟨rfl, F_170⟩, ⟨rfl, F_171⟩⟩, ⟨⟨rfl, F_172⟩, ⟨⟨rfl, F_173⟩, ⟨rfl, F_174⟩⟩⟩⟩⟩⟩⟩, ⟨⟨⟨⟨⟨⟨rfl, F_175⟩, ⟨rfl, F_176⟩⟩, ⟨⟨rfl, F_177⟩, ⟨rfl, F_178⟩⟩⟩, ⟨⟨⟨rfl, F_179⟩, ⟨rfl, F_180⟩⟩, ⟨⟨rfl, F_181⟩, ⟨rfl, F_182⟩⟩⟩⟩, ⟨⟨⟨⟨rfl, F_183⟩, ⟨rfl, F_184⟩⟩, ⟨⟨rfl, F_185⟩, ⟨rfl, F_186⟩⟩⟩, ⟨⟨⟨rfl, F_187⟩, ⟨rfl, F_188⟩⟩, ⟨⟨rfl, F_189⟩, ⟨⟨rfl, F_190⟩, ⟨rfl, F_191⟩⟩⟩⟩⟩⟩, ⟨⟨⟨⟨⟨rfl, F_192⟩, ⟨rfl, F_193⟩⟩, ⟨⟨rfl, F_194⟩, ⟨rfl, F_195⟩⟩⟩, ⟨⟨⟨rfl, F_196⟩, ⟨rfl, F_197⟩⟩, ⟨⟨rfl, F_198⟩, ⟨⟨rfl, F_199⟩, ⟨rfl, F_200⟩⟩⟩⟩⟩, ⟨⟨⟨⟨rfl, F_201⟩, ⟨rfl, F_202⟩⟩, ⟨⟨rfl, F_203⟩, ⟨rfl, F_204⟩⟩⟩, ⟨⟨⟨rfl, F_205⟩, ⟨rfl, F_206⟩⟩, ⟨⟨rfl, F_207⟩, ⟨⟨rfl, F_208⟩, ⟨rfl, F_209⟩⟩⟩⟩⟩⟩⟩⟩, ⟨⟨⟨⟨⟨⟨⟨rfl, F_210⟩, ⟨rfl, F_211⟩⟩, ⟨⟨rfl, F_212⟩, ⟨rfl, F_213⟩⟩⟩, ⟨⟨⟨rfl, F_214⟩, ⟨rfl, F_215⟩⟩, ⟨⟨rfl, F_216⟩, ⟨rfl, F_217⟩⟩⟩⟩, ⟨⟨⟨⟨rfl, F_218⟩, ⟨rfl, F_219⟩⟩, ⟨⟨rfl, F_220⟩, ⟨rfl, F_221⟩⟩⟩, ⟨⟨⟨rfl, F_222⟩, ⟨rfl, F_223⟩⟩, ⟨⟨rfl, F_224⟩, ⟨⟨rfl, F_225⟩, ⟨rfl, F_226⟩⟩⟩⟩⟩⟩, ⟨⟨⟨⟨⟨rfl, F_227⟩, ⟨rfl, F_228⟩⟩, ⟨⟨rfl, F_229⟩, ⟨rfl, F_230⟩⟩⟩, ⟨⟨⟨rfl, F_231⟩, ⟨rfl, F_232⟩⟩, ⟨⟨rfl, F_233⟩, ⟨⟨rfl, F_234⟩, ⟨rfl, F_235⟩⟩⟩⟩⟩, ⟨⟨⟨⟨rfl, F_236⟩, ⟨rfl, F_237⟩⟩, ⟨⟨rfl, F_238⟩, ⟨rfl, F_239⟩⟩⟩, ⟨⟨⟨rfl, F_240⟩, ⟨rfl, F_241⟩⟩, ⟨⟨rfl, F_242⟩, ⟨⟨rfl, F_243⟩, ⟨rfl, F_244⟩⟩⟩⟩⟩⟩⟩, ⟨⟨⟨⟨⟨⟨rfl, F_245⟩, ⟨rfl, F_246⟩⟩, ⟨⟨rfl, F_247⟩, ⟨rfl, F_248⟩⟩⟩, ⟨⟨⟨rfl, F_249⟩, ⟨rfl, F_250⟩⟩, ⟨⟨rfl, F_251⟩, ⟨⟨rfl, F_252⟩, ⟨rfl, F_253⟩⟩⟩⟩⟩, ⟨⟨⟨⟨rfl, F_254⟩, ⟨rfl, F_255⟩⟩, ⟨⟨rfl, F_256⟩, ⟨rfl, F_257⟩⟩⟩, ⟨⟨⟨rfl, F_258⟩, ⟨rfl, F_259⟩⟩, ⟨⟨rfl, F_260⟩, ⟨⟨rfl, F_261⟩, ⟨rfl, F_262⟩⟩⟩⟩⟩⟩, ⟨⟨⟨⟨⟨rfl, F_263⟩, ⟨rfl, F_264⟩⟩, ⟨⟨rfl, F_265⟩, ⟨rfl, F_266⟩⟩⟩, ⟨⟨⟨rfl, F_267⟩, ⟨rfl, F_268⟩⟩, ⟨⟨rfl, F_269⟩, ⟨⟨rfl, F_270⟩, ⟨rfl, F_271⟩⟩⟩⟩⟩, ⟨⟨⟨⟨rfl, F_272⟩, ⟨rfl, F_273⟩⟩, ⟨⟨rfl, F_274⟩, ⟨rfl, F_275⟩⟩⟩, ⟨⟨⟨rfl, F_276⟩, ⟨rfl, F_277⟩⟩, ⟨⟨rfl, F_278⟩, ⟨⟨rfl, F_279⟩, ⟨rfl, trivial⟩⟩⟩⟩⟩⟩⟩⟩⟩⟩
theorem SS_0 : pAll (pSo 0) 0 C_0 := S_0
theorem SS_1 : pAll (pSo 1) 0 C_1 := S_1
theorem SS_2 : pAll (pSo 2) 0 C_2 := S_2
theorem SS_3 : pAll (pSo 3) 0 C_3 := S_3
theorem SS_4 : pAll (pSo 4) 0 C_4 := S_4
theorem SS_5 : pAll (pSo 5) 0 C_5 := S_5
theorem SS_6 : pAll (pSo 6) 0 C_6 := S_6
theorem SS_7 : pAll (pSo 7) 0 C_7 := S_7
theorem SS_8 : pAll (pSo 8) 0 C_8 := S_8
theorem SS_9 : pAll (pSo 9) 0 C_9 := S_9
theorem SS_10 : pAll (pSo 10) 0 C_10 := S_10
theorem SS_11 : pAll (pSo 11) 0 C_11 := S_11
theorem SS_12 : pAll (pSo 12) 0 C_12 := S_12
theorem SS_13 : pAll (pSo 13) 0 C_13 := S_13
theorem SS_14 : pAll (pSo 14) 0 C_14 := S_14
theorem SS_15 : pAll (pSo 15) 0 C_15 := S_15
theorem SS_16 : pAll (pSo 16) 0 C_16 := S_16
theorem SS_17 : pAll (pSo 17) 0 C_17 := S_17
theorem SS_18 : pAll (pSo 18) 0 C_18 := S_18
theorem SS_19 : pAll (pSo 19) 0 C_19 := S_19
theorem SS_20 : pAll (pSo 20) 0 C_20 := S_20
theorem SS_21 : pAll (pSo 21) 0 C_21 := S_21
theorem SS_22 : pAll (pSo 22) 0 C_22 := S_22
theorem SS_23 : pAll (pSo 23) 0 C_23 := S_23
theorem SS_24 : pAll (pSo 24) 0 C_24 := S_24
theorem SS_25 : pAll (pSo 25) 0 C_25 := S_25
theorem SS_26 : pAll (pSo 26) 0 C_26 := S_26
theorem SS_27 : pAll (pSo 27) 0 C_27 := S_27
theorem SS_28 : pAll (pSo 28) 0 C_28 := S_28
theorem SS_29 : pAll (pSo 29) 0 C_29 := S_29
theorem SS_30 : pAll (pSo 30) 0 C_30 := S_30
theorem SS_31 : pAll (pSo 31) 0 C_31 := S_31
theorem SS_32 : pAll (pSo 32) 0 C_32 := S_32
theorem SS_33 : pAll (pSo 33) 0 C_33 := S_33
theorem SS_34 : pAll (pSo 34) 0 C_34 := S_34
theorem SS_35 : pAll (pSo 35) 0 C_35 := S_35
theorem SS_36 : pAll (pSo 36) 0 C_36 := S_36
theorem SS_37 : pAll (pSo 37) 0 C_37 := S_37
theorem SS_38 : pAll (pSo 38) 0 C_38 := S_38
theorem SS_39 : pAll (pSo 39) 0 C_39 := S_39
theorem SS_40 : pAll (pSo 40) 0 C_40 := S_40
theorem SS_41 : pAll (pSo 41) 0 C_41 := S_41
theorem SS_42 : pAll (pSo 42) 0 C_42 := S_42
theorem SS_43 : pAll (pSo 43) 0 C_43 := S_43
theorem SS_44 : pAll (pSo 44) 0 C_44 := S_44
theorem SS_45 : pAll (pSo 45) 0 C_45 := S_45
theorem SS_46 : pAll (pSo 46) 0 C_46 := S_46
theorem SS_47 : pAll (pSo 47) 0 C_47 := S_47
theorem SS_48 : pAll (pSo 48) 0 C_48 := S_48
theorem SS_49 : pAll (pSo 49) 0 C_49 := S_49
theorem SS_50 : pAll (pSo 50) 0 C_50 := S_50
theorem SS_51 : pAll (pSo 51) 0 C_51 := S_51
theorem SS_52 : pAll (pSo 52) 0 C_52 := S_52
theorem SS_53 : pAll (pSo 53) 0 C_53 := S_53
theorem SS_54 : pAll (pSo 54) 0 C_54 := S_54
theorem SS_55 : pAll (pSo 55) 0 C_55 := S_55
theorem SS_56 : pAll (pSo 56) 0 C_56 := S_56
theorem SS_57 : pAll (pSo 57) 0 C_57 := S_57
theorem SS_58 : pAll (pSo 58) 0 C_58 := S_58
theorem SS_59 : pAll (pSo 59) 0 C_59 := S_59
theorem SS_60 : pAll (pSo 60) 0 C_60 := S_60
theorem SS_61 : pAll (pSo 61) 0 C_61 := S_61
theorem SS_62 : pAll (pSo 62) 0 C_62 := S_62
theorem SS_63 : pAll (pSo 63) 0 C_63 := S_63
theorem SS_64 : pAll (pSo 64) 0 C_64 := S_64
theorem SS_65 : pAll (pSo 65) 0 C_65 := S_65
theorem SS_66 : pAll (pSo 66) 0 C_66 := S_66
theorem SS_67 : pAll (pSo 67) 0 C_67 := S_67
theorem SS_68 : pAll (pSo 68) 0 C_68 := S_68
theorem SS_69 : pAll (pSo 69) 0 C_69 := S_69
theorem SS_70 : pAll (pSo 70) 0 C_70 := S_70
theorem SS_71 : pAll (pSo 71) 0 C_71 := S_71
theorem SS_72 : pAll (pSo 72) 0 C_72 := S_72
theorem SS_73 : pAll (pSo 73) 0 C_73 := S_73
theorem SS_74 : pAll (pSo 74) 0 C_74 := S_74
theorem SS_75 : pAll (pSo 75) 0 C_75 := S_75
theorem SS_76 : pAll (pSo 76) 0 C_76 := S_76
theorem SS_77 : pAll (pSo 77) 0 C_77 := S_77
theorem SS_78 : pAll (pSo 78) 0 C_78 := S_78
theorem SS_79 : pAll (pSo 79) 0 C_79 := S_79
theorem SS_80 : pAll (pSo 80) 0 C_80 := S_80
theorem SS_81 : pAll (pSo 81) 0 C_81 := S_81
theorem SS_82 : pAll (pSo 82) 0 C_82 := S_82
theorem SS_83 : pAll (pSo 83) 0 C_83 := S_83
theorem SS_84 : pAll (pSo 84) 0 C_84 := S_84
theorem SS_85 : pAll (pSo 85) 0 C_85 := S_85
theorem SS_86 : pAll (pSo 86) 0 C_86 := S_86
theorem SS_87 : pAll (pSo 87) 0 C_87 := S_87
theorem SS_88 : pAll (pSo 88) 0 C_88 := S_88
theorem SS_89 : pAll (pSo 89) 0 C_89 := S_89
theorem SS_90 : pAll (pSo 90) 0 C_90 := S_90
theorem SS_91 : pAll (pSo 91) 0 C_91 := S_91
theorem SS_92 : pAll (pSo 92) 0 C_92 := S_92
theorem SS_93 : pAll (pSo 93) 0 C_93 := S_93
theorem SS_94 : pAll (pSo 94) 0 C_94 := S_94
theorem SS_95 : pAll (pSo 95) 0 C_95 := S_95
theorem SS_96 : pAll (pSo 96) 0 C_96 := S_96
theorem SS_97 : pAll (pSo 97) 0 C_97 := S_97
theorem SS_98 : pAll (pSo 98) 0 C_98 := S_98
theorem SS_99 : pAll (pSo 99) 0 C_99 := S_99
theorem SS_100 : pAll (pSo 100) 0 C_100 := S_100
theorem SS_101 : pAll (pSo 101) 0 C_101 := S_101
theorem SS_102 : pAll (pSo 102) 0 C_102 := S_102
theorem SS_103 : pAll (pSo 103) 0 C_103 := S_103
theorem SS_104 : pAll (pSo 104) 0 C_104 := S_104
theorem SS_105 : pAll (pSo 105) 0 C_105 := S_105
theorem SS_106 : pAll (pSo 106) 0 C_106 := S_106
theorem SS_107 : pAll (pSo 107) 0 C_107 := S_107
theorem SS_108 : pAll (pSo 108) 0 C_108 := S_108
theorem SS_109 : pAll (pSo 109) 0 C_109 := S_109
theorem SS_110 : pAll (pSo 110) 0 C_110 := S_110
theorem SS_111 : pAll (pSo 111) 0 C_111 := S_111
theorem SS_112 : pAll (pSo 112) 0 C_112 := S_112
theorem SS_113 : pAll (pSo 113) 0 C_113 := S_113
theorem SS_114 : pAll (pSo 114) 0 C_114 := S_114
theorem SS_115 : pAll (pSo 115) 0 C_115 := S_115
theorem SS_116 : pAll (pSo 116) 0 C_116 := S_116
theorem SS_117 : pAll (pSo 117) 0 C_117 := S_117
theorem SS_118 : pAll (pSo 118) 0 C_118 := S_118
theorem SS_119 : pAll (pSo 119) 0 C_119 := S_119
theorem SS_120 : pAll (pSo 120) 0 C_120 := S_120
theorem SS_121 : pAll (pSo 121) 0 C_121 := S_121
theorem SS_122 : pAll (pSo 122) 0 C_122 := S_122
theorem SS_123 : pAll (pSo 123) 0 C_123 := S_123
theorem SS_124 : pAll (pSo 124) 0 C_124 := S_124
theorem SS_125 : pAll (pSo 125) 0 C_125 := S_125
theorem SS_126 : pAll (pSo 126) 0 C_126 := S_126
theorem SS_127 : pAll (pSo 127) 0 C_127 := S_127
theorem SS_128 : pAll (pSo 128) 0 C_128 := S_128
theorem SS_129 : pAll (pSo 129) 0 C_129 := S_129
theorem SS_130 : pAll (pSo 130) 0 C_130 := S_130
theorem SS_131 : pAll (pSo 131) 0 C_131 := S_131
theorem SS_132 : pAll (pSo 132) 0 C_132 := S_132
theorem SS_133 : pAll (pSo 133) 0 C_133 := S_133
theorem SS_134 : pAll (pSo 134) 0 C_134 := S_134
theorem SS_135 : pAll (pSo 135) 0 C_135 := S_135
theorem SS_136 : pAll (pSo 136) 0 C_136 := S_136
theorem SS_137 : pAll (pSo 137) 0 C_137 := S_137
theorem SS_138 : pAll (pSo 138) 0 C_138 := S_138
theorem SS_139 : pAll (pSo 139) 0 C_139 := S_139
theorem SS_140 : pAll (pSo 140) 0 C_140 := S_140
theorem SS_141 : pAll (pSo 141) 0 C_141 := S_141
theorem SS_142 : pAll (pSo 142) 0 C_142 := S_142
theorem SS_143 : pAll (pSo 143) 0 C_143 := S_143
theorem SS_144 : pAll (pSo 144) 0 C_144 := S_144
theorem SS_145 : pAll (pSo 145) 0 C_145 := S_145
theorem SS_146 : pAll (pSo 146) 0 C_146 := S_146
theorem SS_147 : pAll (pSo 147) 0 C_147 := S_147
theorem SS_148 : pAll (pSo 148) 0 C_148 := S_148
theorem SS_149 : pAll (pSo 149) 0 C_149 := S_149
theorem SS_150 : pAll (pSo 150) 0 C_150 := S_150
theorem SS_151 : pAll (pSo 151) 0 C_151 := S_151
theorem SS_152 : pAll (pSo 152) 0 C_152 := S_152
theorem SS_153 : pAll (pSo 153) 0 C_153 := S_153
theorem SS_154 : pAll (pSo 154) 0 C_154 := S_154
theorem SS_155 : pAll (pSo 155) 0 C_155 := S_155
theorem SS_156 : pAll (pSo 156) 0 C_156 := S_156
theorem SS_157 : pAll (pSo 157) 0 C_157 := S_157
theorem SS_158 : pAll (pSo 158) 0 C_158 := S_158
theorem SS_159 : pAll (pSo 159) 0 C_159 := S_159
theorem SS_160 : pAll (pSo 160) 0 C_160 := S_160
theorem SS_161 : pAll (pSo 161) 0 C_161 := S_161
theorem SS_162 : pAll (pSo 162) 0 C_162 := S_162
theorem SS_163 : pAll (pSo 163) 0 C_163 := S_163
theorem SS_164 : pAll (pSo 164) 0 C_164 := S_164
theorem SS_165 : pAll (pSo 165) 0 C_165 := S_165
theorem SS_166 : pAll (pSo 166) 0 C_166 := S_166
theorem SS_167 : pAll (pSo 167) 0 C_167 := S_167
theorem SS_168 : pAll (pSo 168) 0 C_168 := S_168
theorem SS_169 : pAll (pSo 169) 0 C_169 := S_169
theorem SS_170 : pAll (pSo 170) 0 C_170 := S_170
theorem SS_171 : pAll (pSo 171) 0 C_171 := S_171
theorem SS_172 : pAll (pSo 172) 0 C_172 := S_172
theorem SS_173 : pAll (pSo 173) 0 C_173 := S_173
theorem SS_174 : pAll (pSo 174) 0 C_174 := S_174
theorem SS_175 : pAll (pSo 175) 0 C_175 := S_175
theorem SS_176 : pAll (pSo 176) 0 C_176 := S_176
theorem SS_177 : pAll (pSo 177) 0 C_177 := S_177
theorem SS_178 : pAll (pSo 178) 0 C_178 := S_178
theorem SS_179 : pAll (pSo 179) 0 C_179 := S_179
theorem SS_180 : pAll (pSo 180) 0 C_180 := S_180
theorem SS_181 : pAll (pSo 181) 0 C_181 := S_181
theorem SS_182 : pAll (pSo 182) 0 C_182 := S_182
theorem SS_183 : pAll (pSo 183) 0 C_183 := S_183
theorem SS_184 : pAll (pSo 184) 0 C_184 := S_184
theorem SS_185 : pAll (pSo 185) 0 C_185 := S_185
theorem SS_186 : pAll (pSo 186) 0 C_186 := S_186
theorem SS_187 : pAll (pSo 187) 0 C_187 := S_187
theorem SS_188 : pAll (pSo 188) 0 C_188 := S_188
theorem SS_189 : pAll (pSo 189) 0 C_189 := S_189
theorem SS_190 : pAll (pSo 190) 0 C_190 := S_190
theorem SS_191 : pAll (pSo 191) 0 C_191 := S_191
theorem SS_192 : pAll (pSo 192) 0 C_192 := S_192
theorem SS_193 : pAll (pSo 193) 0 C_193 := S_193
theorem SS_194 : pAll (pSo 194) 0 C_194 := S_194
theorem SS_195 : pAll (pSo 195) 0 C_195 := S_195
theorem SS_196 : pAll (pSo 196) 0 C_196 := S_196
theorem SS_197 : pAll (pSo 197) 0 C_197 := S_197
theorem SS_198 : pAll (pSo 198) 0 C_198 := S_198
theorem SS_199 : pAll (pSo 199) 0 C_199 := S_199
theorem SS_200 : pAll (pSo 200) 0 C_200 := S_200
theorem SS_201 : pAll (pSo 201) 0 C_201 := S_201
theorem SS_202 : pAll (pSo 202) 0 C_202 := S_202
theorem SS_203 : pAll (pSo 203) 0 C_203 := S_203
theorem SS_204 : pAll (pSo 204) 0 C_204 := S_204
theorem SS_205 : pAll (pSo 205) 0 C_205 := S_205
theorem SS_206 : pAll (pSo 206) 0 C_206 := S_206
theorem SS_207 : pAll (pSo 207) 0 C_207 := S_207
theorem SS_208 : pAll (pSo 208) 0 C_208 := S_208
theorem SS_209 : pAll (pSo 209) 0 C_209 := S_209
theorem SS_210 : pAll (pSo 210) 0 C_210 := S_210
theorem SS_211 : pAll (pSo 211) 0 C_211 := S_211
theorem SS_212 : pAll (pSo 212) 0 C_212 := S_212
theorem SS_213 : pAll (pSo 213) 0 C_213 := S_213
theorem SS_214 : pAll (pSo 214) 0 C_214 := S_214
theorem SS_215 : pAll (pSo 215) 0 C_215 := S_215
theorem SS_216 : pAll (pSo 216) 0 C_216 := S_216
theorem SS_217 : pAll (pSo 217) 0 C_217 := S_217
theorem SS_218 : pAll (pSo 218) 0 C_218 := S_218
theorem SS_219 : pAll (pSo 219) 0 C_219 := S_219
theorem SS_220 : pAll (pSo 220) 0 C_220 := S_220
theorem SS_221 : pAll (pSo 221) 0 C_221 := S_221
theorem SS_222 : pAll (pSo 222) 0 C_222 := S_222
theorem SS_223 : pAll (pSo 223) 0 C_223 := S_223
theorem SS_224 : pAll (pSo 224) 0 C_224 := S_224
theorem SS_225 : pAll (pSo 225) 0 C_225 := S_225
theorem SS_226 : pAll (pSo 226) 0 C_226 := S_226
theorem SS_227 : pAll (pSo 227) 0 C_227 := S_227
theorem SS_228 : pAll (pSo 228) 0 C_228 := S_228
theorem SS_229 : pAll (pSo 229) 0 C_229 := S_229
theorem SS_230 : pAll (pSo 230) 0 C_230 := S_230
theorem SS_231 : pAll (pSo 231) 0 C_231 := S_231
theorem SS_232 : pAll (pSo 232) 0 C_232 := S_232
theorem SS_233 : pAll (pSo 233) 0 C_233 := S_233
theorem SS_234 : pAll (pSo 234) 0 C_234 := S_234
theorem SS_235 : pAll (pSo 235) 0 C_235 := S_235
theorem SS_236 : pAll (pSo 236) 0 C_236 := S_236
theorem SS_237 : pAll (pSo 237) 0 C_237 := S_237
theorem SS_238 : pAll (pSo 238) 0 C_238 := S_238
theorem SS_239 : pAll (pSo 239) 0 C_239 := S_239
theorem SS_240 : pAll (pSo 240) 0 C_240 := S_240
theorem SS_241 : pAll (pSo 241) 0 C_241 := S_241
theorem SS_242 : pAll (pSo 242) 0 C_242 := S_242
theorem SS_243 : pAll (pSo 243) 0 C_243 := S_243
theorem SS_244 : pAll (pSo 244) 0 C_244 := S_244
theorem SS_245 : pAll (pSo 245) 0 C_245 := S_245
theorem SS_246 : pAll (pSo 246) 0 C_246 := S_246
theorem SS_247 : pAll (pSo 247) 0 C_247 := S_247
theorem SS_248 : pAll (pSo 248) 0 C_248 := S_248
theorem SS_249 : pAll (pSo 249) 0 C_249 := S_249
theorem SS_250 : pAll (pSo 250) 0 C_250 := S_250
theorem SS_251 : pAll (pSo 251) 0 C_251 := S_251
theorem SS_252 : pAll (pSo 252) 0 C_252 := S_252
theorem SS_253 : pAll (pSo 253) 0 C_253 := S_253
theorem SS_254 : pAll (pSo 254) 0 C_254 := S_254
theorem SS_255 : pAll (pSo 255) 0 C_255 := S_255
theorem SS_256 : pAll (pSo 256) 0 C_256 := S_256
theorem SS_257 : pAll (pSo 257) 0 C_257 := S_257
theorem SS_258 : pAll (pSo 258) 0 C_258 := S_258
theorem SS_259 : pAll (pSo 259) 0 C_259 := S_259
theorem SS_260 : pAll (pSo 260) 0 C_260 := S_260
theorem SS_261 : pAll (pSo 261) 0 C_261 := S_261
theorem SS_262 : pAll (pSo 262) 0 C_262 := S_262
theorem SS_263 : pAll (pSo 263) 0 C_263 := S_263
theorem SS_264 : pAll (pSo 264) 0 C_264 := S_264
theorem SS_265 : pAll (pSo 265) 0 C_265 := S_265
theorem SS_266 : pAll (pSo 266) 0 C_266 := S_266
theorem SS_267 : pAll (pSo 267) 0 C_267 := S_267
theorem SS_268 : pAll (pSo 268) 0 C_268 := S_268
theorem SS_269 : pAll (pSo 269) 0 C_269 := S_269
theorem SS_270 : pAll (pSo 270) 0 C_270 := S_270
theorem SS_271 : pAll (pSo 271) 0 C_271 := S_271
theorem SS_272 : pAll (pSo 272) 0 C_272 := S_272
theorem SS_273 : pAll (pSo 273) 0 C_273 := S_273
theorem SS_274 : pAll (pSo 274) 0 C_274 := S_274
theorem SS_275 : pAll (pSo 275) 0 C_275 := S_275
theorem SS_276 : pAll (pSo 276) 0 C_276 := S_276
theorem SS_277 : pAll (pSo 277) 0 C_277 := S_277
theorem SS_278 : pAll (pSo 278) 0 C_278 := S_278
theorem SS_279 : pAll (pSo 279) 0 C_279 := S_279
set_option maxRecDepth 100000 in
set_option maxHeartbeats 4000000 in
theorem S_all : ra_P (fun a b C => b = a + 1 ∧ pAll (pSo a) 0 C) 0 281 pCT := ⟨⟨⟨⟨⟨⟨⟨⟨⟨rfl, SS_0⟩, ⟨rfl, SS_1⟩⟩, ⟨⟨rfl, SS_2⟩, ⟨rfl, SS_3⟩⟩⟩, ⟨⟨⟨rfl, SS_4⟩, ⟨rfl, SS_5⟩⟩, ⟨⟨rfl, SS_6⟩, ⟨rfl, SS_7⟩⟩⟩⟩, ⟨⟨⟨⟨rfl, SS_8⟩, ⟨rfl, SS_9⟩⟩, ⟨⟨rfl, SS_10⟩, ⟨rfl, SS_11⟩⟩⟩, ⟨⟨⟨rfl, SS_12⟩, ⟨rfl, SS_13⟩⟩, ⟨⟨rfl, SS_14⟩, ⟨⟨rfl, SS_15⟩, ⟨rfl, SS_16⟩⟩⟩⟩⟩⟩, ⟨⟨⟨⟨⟨rfl, SS_17⟩, ⟨rfl, SS_18⟩⟩, ⟨⟨rfl, SS_19⟩, ⟨rfl, SS_20⟩⟩⟩, ⟨⟨⟨rfl, SS_21⟩, ⟨rfl, SS_22⟩⟩, ⟨⟨rfl, SS_23⟩, ⟨⟨rfl, SS_24⟩, ⟨rfl, SS_25⟩⟩⟩⟩⟩, ⟨⟨⟨⟨rfl, SS_26⟩, ⟨rfl, SS_27⟩⟩, ⟨⟨rfl, SS_28⟩, ⟨rfl, SS_29⟩⟩⟩, ⟨⟨⟨rfl, SS_30⟩, ⟨rfl, SS_31⟩⟩, ⟨⟨rfl, SS_32⟩, ⟨⟨rfl, SS_33⟩, ⟨rfl, SS_34⟩⟩⟩⟩⟩⟩⟩, ⟨⟨⟨⟨⟨⟨rfl, SS_35⟩, ⟨rfl, SS_36⟩⟩, ⟨⟨rfl, SS_37⟩, ⟨rfl, SS_38⟩⟩⟩, ⟨⟨⟨rfl, SS_39⟩, ⟨rfl, SS_40⟩⟩, ⟨⟨rfl, SS_41⟩, ⟨rfl, SS_42⟩⟩⟩⟩, ⟨⟨⟨⟨rfl, SS_43⟩, ⟨rfl, SS_44⟩⟩, ⟨⟨rfl, SS_45⟩, ⟨rfl, SS_46⟩⟩⟩, ⟨⟨⟨rfl, SS_47⟩, ⟨rfl, SS_48⟩⟩, ⟨⟨rfl, SS_49⟩, ⟨⟨rfl, SS_50⟩, ⟨rfl, SS_51⟩⟩⟩⟩⟩⟩, ⟨⟨⟨⟨⟨rfl, SS_52⟩, ⟨rfl, SS_53⟩⟩, ⟨⟨rfl, SS_54⟩, ⟨rfl, SS_55⟩⟩⟩, ⟨⟨⟨rfl, SS_56⟩, ⟨rfl, SS_57⟩⟩, ⟨⟨rfl, SS_58⟩, ⟨⟨rfl, SS_59⟩, ⟨rfl, SS_60⟩⟩⟩⟩⟩, ⟨⟨⟨⟨rfl, SS_61⟩, ⟨rfl, SS_62⟩⟩, ⟨⟨rfl, SS_63⟩, ⟨rfl, SS_64⟩⟩⟩, ⟨⟨⟨rfl, SS_65⟩, ⟨rfl, SS_66⟩⟩, ⟨⟨rfl, SS_67⟩, ⟨⟨rfl, SS_68⟩, ⟨rfl, SS_69⟩⟩⟩⟩⟩⟩⟩⟩, ⟨⟨⟨⟨⟨⟨⟨rfl, SS_70⟩, ⟨rfl, SS_71⟩⟩, ⟨⟨rfl, SS_72⟩, ⟨rfl, SS_73⟩⟩⟩, ⟨⟨⟨rfl, SS_74⟩, ⟨rfl, SS_75⟩⟩, ⟨⟨rfl, SS_76⟩, ⟨rfl, SS_77⟩⟩⟩⟩, ⟨⟨⟨⟨rfl, SS_78⟩, ⟨rfl, SS_79⟩⟩, ⟨⟨rfl, SS_80⟩, ⟨rfl, SS_81⟩⟩⟩, ⟨⟨⟨rfl, SS_82⟩, ⟨rfl, SS_83⟩⟩, ⟨⟨rfl, SS_84⟩, ⟨⟨rfl, SS_85⟩, ⟨rfl, SS_86⟩⟩⟩⟩⟩⟩, ⟨⟨⟨⟨⟨rfl, SS_87⟩, ⟨rfl, SS_88⟩⟩, ⟨⟨rfl, SS_89⟩, ⟨rfl, SS_90⟩⟩⟩, ⟨⟨⟨rfl, SS_91⟩, ⟨rfl, SS_92⟩⟩, ⟨⟨rfl, SS_93⟩, ⟨⟨rfl, SS_94⟩, ⟨rfl, SS_95⟩⟩⟩⟩⟩, ⟨⟨⟨⟨rfl, SS_96⟩, ⟨rfl, SS_97⟩⟩, ⟨⟨rfl, SS_98⟩, ⟨rfl, SS_99⟩⟩⟩, ⟨⟨⟨rfl, SS_100⟩, ⟨rfl, SS_101⟩⟩, ⟨⟨rfl, SS_102⟩, ⟨⟨rfl, SS_103⟩, ⟨rfl, SS_104⟩⟩⟩⟩⟩⟩⟩, ⟨⟨⟨⟨⟨⟨rfl, SS_105⟩, ⟨rfl, SS_106⟩⟩, ⟨⟨rfl, SS_107⟩, ⟨rfl, SS_108⟩⟩⟩, ⟨⟨⟨rfl, SS_109⟩, ⟨rfl, SS_110⟩⟩, ⟨⟨rfl, SS_111⟩, ⟨rfl, SS_112⟩⟩⟩⟩, ⟨⟨⟨⟨rfl, SS_113⟩, ⟨rfl, SS_114⟩⟩, ⟨⟨rfl, SS_115⟩, ⟨rfl, SS_116⟩⟩⟩, ⟨⟨⟨rfl, SS_117⟩, ⟨rfl, SS_118⟩⟩, ⟨⟨rfl, SS_119⟩, ⟨⟨rfl, SS_120⟩, ⟨rfl, SS_121⟩⟩⟩⟩⟩⟩, ⟨⟨⟨⟨⟨rfl, SS_122⟩, ⟨rfl, SS_123⟩⟩, ⟨⟨rfl, SS_124⟩, ⟨rfl, SS_125⟩⟩⟩, ⟨⟨⟨rfl, SS_126⟩, ⟨rfl, SS_127⟩⟩, ⟨⟨rfl, SS_128⟩, ⟨⟨rfl, SS_129⟩, ⟨rfl, SS_130⟩⟩⟩⟩⟩, ⟨⟨⟨⟨rfl, SS_131⟩, ⟨rfl, SS_132⟩⟩, ⟨⟨rfl, SS_133⟩, ⟨rfl, SS_134⟩⟩⟩, ⟨⟨⟨rfl, SS_135⟩, ⟨rfl, SS_136⟩⟩, ⟨⟨rfl, SS_137⟩, ⟨⟨rfl, SS_138⟩, ⟨rfl, SS_139⟩⟩⟩⟩⟩⟩⟩⟩⟩, ⟨⟨⟨⟨⟨⟨⟨⟨rfl, SS_140⟩, ⟨rfl, SS_141⟩⟩, ⟨⟨rfl, SS_142⟩, ⟨rfl, SS_143⟩⟩⟩, ⟨⟨⟨rfl, SS_144⟩, ⟨rfl, SS_145⟩⟩, ⟨⟨rfl, SS_146⟩, ⟨rfl, SS_147⟩⟩⟩⟩, ⟨⟨⟨⟨rfl, SS_148⟩, ⟨rfl, SS_149⟩⟩, ⟨⟨rfl, SS_150⟩, ⟨rfl, SS_151⟩⟩⟩, ⟨⟨⟨rfl, SS_152⟩, ⟨rfl, SS_153⟩⟩, ⟨⟨rfl, SS_154⟩, ⟨⟨rfl, SS_155⟩, ⟨rfl, SS_156⟩⟩⟩⟩⟩⟩, ⟨⟨⟨⟨⟨rfl, SS_157⟩, ⟨rfl, SS_158⟩⟩, ⟨⟨rfl, SS_159⟩, ⟨rfl, SS_160⟩⟩⟩, ⟨⟨⟨rfl, SS_161⟩, ⟨rfl, SS_162⟩⟩, ⟨⟨rfl, SS_163⟩, ⟨⟨rfl, SS_164⟩, ⟨rfl, SS_165⟩⟩⟩⟩⟩, ⟨⟨⟨⟨rfl, SS_166⟩, ⟨rfl, SS_167⟩⟩, ⟨⟨rfl, SS_168⟩, ⟨rfl, SS_169⟩⟩⟩, ⟨⟨⟨rfl, SS_170⟩, ⟨rfl, SS_171⟩⟩, ⟨⟨rfl, SS_172⟩, ⟨⟨rfl, SS_173⟩, ⟨rfl, SS_174⟩⟩⟩⟩⟩⟩⟩, ⟨⟨⟨⟨⟨⟨rfl, SS_175⟩, ⟨rfl, SS_176⟩⟩, ⟨⟨rfl, SS_177⟩, ⟨rfl, SS_178⟩⟩⟩, ⟨⟨⟨rfl, SS_179⟩, ⟨rfl, SS_180⟩⟩, ⟨⟨rfl, SS_181⟩, ⟨rfl, SS_182⟩⟩⟩⟩, ⟨⟨⟨⟨rfl, SS_183⟩, ⟨rfl, SS_184⟩⟩, ⟨⟨rfl, SS_185⟩, ⟨rfl, SS_186⟩⟩⟩, ⟨⟨⟨rfl, SS_187⟩, ⟨rfl, SS_188⟩⟩, ⟨⟨rfl, SS_189⟩, ⟨⟨rfl, SS_190⟩, ⟨rfl, SS_191⟩⟩⟩⟩⟩⟩, ⟨⟨⟨⟨⟨rfl, SS_192⟩, ⟨rfl, SS_193⟩⟩, ⟨⟨rfl, SS_194⟩, ⟨rfl, SS_195⟩⟩⟩, ⟨⟨⟨rfl, SS_196⟩, ⟨rfl, SS_197⟩⟩, ⟨⟨rfl, SS_198⟩, ⟨⟨rfl, SS_199⟩, ⟨rfl, SS_200⟩⟩⟩⟩⟩, ⟨⟨⟨⟨rfl, SS_201⟩, ⟨rfl, SS_202⟩⟩, ⟨⟨rfl, SS_203⟩, ⟨rfl, SS_204⟩⟩⟩, ⟨⟨⟨rfl, SS_205⟩, ⟨rfl, SS_206⟩⟩, ⟨⟨rfl, SS_207⟩, ⟨⟨rfl, SS_208⟩, ⟨rfl, SS_209⟩⟩⟩⟩⟩⟩⟩⟩, ⟨⟨⟨⟨⟨⟨⟨rfl, SS_210⟩, ⟨rfl, SS_211⟩⟩, ⟨⟨rfl, SS_212⟩, ⟨rfl, SS_213⟩⟩⟩, ⟨⟨⟨rfl, SS_214⟩, ⟨rfl, SS_215⟩⟩, ⟨⟨rfl, SS_216⟩, ⟨rfl, SS_217⟩⟩⟩⟩, ⟨⟨⟨⟨rfl, SS_218⟩, ⟨rfl, SS_219⟩⟩, ⟨⟨rfl, SS_220⟩, ⟨rfl, SS_221⟩⟩⟩, ⟨⟨⟨rfl, SS_222⟩, ⟨rfl, SS_223⟩⟩, ⟨⟨rfl, SS_224⟩, ⟨⟨rfl, SS_225⟩, ⟨rfl, SS_226⟩⟩⟩⟩⟩⟩, ⟨⟨⟨⟨⟨rfl, SS_227⟩, ⟨rfl, SS_228⟩⟩, ⟨⟨rfl, SS_229⟩, ⟨rfl, SS_230⟩⟩⟩, ⟨⟨⟨rfl, SS_231⟩, ⟨rfl, SS_232⟩⟩, ⟨⟨rfl, SS_233⟩, ⟨⟨rfl, SS_234⟩, ⟨rfl, SS_235⟩⟩⟩⟩⟩, ⟨⟨⟨⟨rfl, SS_236⟩, ⟨rfl, SS_237⟩⟩, ⟨⟨rfl, SS_238⟩, ⟨rfl, SS_239⟩⟩⟩, ⟨⟨⟨rfl, SS_240⟩, ⟨rfl, SS_241⟩⟩, ⟨⟨rfl, SS_242⟩, ⟨⟨rfl, SS_243⟩, ⟨rfl, SS_244⟩⟩⟩⟩⟩⟩⟩, ⟨⟨⟨⟨⟨⟨rfl, SS_245⟩, ⟨rfl, SS_246⟩⟩, ⟨⟨rfl, SS_247⟩, ⟨rfl, SS_248⟩⟩⟩, ⟨⟨⟨rfl, SS_249⟩, ⟨rfl, SS_250⟩⟩, ⟨⟨rfl, SS_251⟩, ⟨⟨rfl, SS_252⟩, ⟨rfl, SS_253⟩⟩⟩⟩⟩, ⟨⟨⟨⟨rfl, SS_254⟩, ⟨rfl, SS_255⟩⟩, ⟨⟨rfl, SS_256⟩, ⟨rfl, SS_257⟩⟩⟩, ⟨⟨⟨rfl, SS_258⟩, ⟨rfl, SS_259⟩⟩, ⟨⟨rfl, SS_260⟩, ⟨⟨rfl, SS_261⟩, ⟨rfl, SS_262⟩⟩⟩⟩⟩⟩, ⟨⟨⟨⟨⟨rfl, SS_263⟩, ⟨rfl, SS_264⟩⟩, ⟨⟨rfl, SS_265⟩, ⟨rfl, SS_266⟩⟩⟩, ⟨⟨⟨rfl, SS_267⟩, ⟨rfl, SS_268⟩⟩, ⟨⟨rfl, SS_269⟩, ⟨⟨rfl, SS_270⟩, ⟨rfl, SS_271⟩⟩⟩⟩⟩, ⟨⟨⟨⟨rfl, SS_272⟩, ⟨rfl, SS_273⟩⟩, ⟨⟨rfl, SS_274⟩, ⟨rfl, SS_275⟩⟩⟩, ⟨⟨⟨rfl, SS_276⟩, ⟨rfl, SS_277⟩⟩, ⟨⟨rfl, SS_278⟩, ⟨⟨rfl, SS_279⟩, ⟨rfl, trivial⟩⟩⟩⟩⟩⟩⟩⟩⟩⟩
theorem pCT_end {k : Nat} (h : 280 ≤ k) : pCT.get k = [] := ra_end pCT (by decide +kernel) k h
theorem x_hF : ∀ k i, pForm (pprog k i) := by
  intro k i
  unfold pprog
  rcases Nat.lt_or_ge k 281 with q | q
  · obtain ⟨a, b, -, -, -, h⟩ := ra_P_get pCT 0 _ F_all k (Nat.zero_le _) q
    cases hi : (pCT.get k)[i]? with
    | none => rw [List.getD_eq_getElem?_getD, hi]; exact pf_none
    | some f => rw [List.getD_eq_getElem?_getD, hi]; exact pAll_get h hi
  · rw [pCT_end (Nat.le_of_succ_le q)]; exact pf_none
theorem x_hS : ∀ k i, pSnd pyn pwk (pyn k).cls (pcc k) (pnl k) (prt k) (ppcs k) (ppcs k i) (pprog k i) := by
  intro k i
  unfold pprog
  rcases Nat.lt_or_ge k 281 with q | q
  · obtain ⟨a, b, h1, h2, e, h⟩ := ra_P_get pCT 0 _ S_all k (Nat.zero_le _) q
    have ea : a = k := by omega
    subst ea
    cases hi : (pCT.get a)[i]? with
    | none => rw [List.getD_eq_getElem?_getD, hi]; exact sn_none
    | some f =>
      rw [List.getD_eq_getElem?_getD, hi]
      have h2 := pAll_get h hi
      rw [Nat.zero_add] at h2
      exact h2
  · rw [pCT_end (Nat.le_of_succ_le q)]; exact sn_none
theorem x_hM : ∀ k, (∀ i, pprog k i = s_none) ∨ pMeth pnl pyn pwk pcc prt ppcs k := by
  intro k
  rcases Nat.lt_or_ge k 280 with q | q
  · refine Or.inr ⟨?_, rfl, ?_⟩
    · exact (show ∀ k, k < 280 → plainName (pyn k).cls = true by decide +kernel) k q
    · exact (show ∀ k, k < 280 → ppcs k 0 = 0 by decide +kernel) k q
  · refine Or.inl fun i => ?_
    unfold pprog
    rw [pCT_end q]
    rfl
/-- the run of method k at depth d; what a call of depth d answers -/
noncomputable def xE (d k : Nat) : pX := pE pprog pnl d k
noncomputable def xF (d : Nat) : pY := pYE pprog pnl d
theorem x_sound {l : Launch} {G : va_G} {ad : Nat → Nat} {cA : Nat → ClassId} {d : Nat} {R : Room} (h1 : d + 1 ≤ R.frames) (h2 : 80 * (d + 1) ≤ R.locals) : pMt l G ad cA pyn pwk R (xF d) := by
  intro k a M r h
  obtain ⟨n, h⟩ := (pYE_some pprog pnl x_hF).mp h
  exact (pexec_sound pprog pnl pyn pwk pcc prt ppcs x_hS x_hM n d).2 l G ad cA R h1 h2 k a M r h
theorem x_run (d k : Nat) (code : Nat → pS) (hc : pprog k = code) (stop : Nat → Bool) (n : Nat) (i : Nat) (ls st : List pV) (M : pM) : xE d k i ls st M = prun code stop (xE d k) (xF d) n i ls st M := by
  subst hc
  exact (congrFun (congrFun (congrFun (congrFun (prun_eq pprog pnl x_hF d k stop n) i) ls) st) M).symm
