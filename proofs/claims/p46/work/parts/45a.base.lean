section
/-! ranges of all places (by program) -/
def gTT : Lean.RArray (List aV) := 
 .branch 46 (
 .branch 23 (
 .branch 11 (
 .branch 5 (
 .branch 2 (
 .branch 1 (.leaf ([(0, -2147483648, 2147483647, 0, 0, 0), (0, -2147483648, 2147483647, 0, 0, 0), (0, -2147483648, 2147483647, 0, 0, 0), (0, -2147483648, 2147483647, 0, 0, 0), (0, -2147483648, 2147483647, 0, 0, 0), (0, -2147483648, 2147483647, 0, 0, 0), (0, -2147483648, 2147483647, 0, 0, 0), (0, -2147483648, 2147483647, 0, 0, 0), (0, -2147483648, 2147483647, 0, 0, 0), (0, -2147483648, 2147483647, 0, 0, 0), (0, -2147483648, 2147483647, 0, 0, 0), (0, -2147483648, 2147483647, 0, 0, 0), (0, -2147483648, 2147483647, 0, 0, 0), (0, -2147483648, 2147483647, 0, 0, 0), (0, 0, 80, 0, 0, 0), (1, 0, 0, 0, 0, 0), (1, 0, 0, 0, 0, 0), (0, 1, 999, 0, 0, 0)])) (.leaf ([(0, -2147483648, 2147483647, 0, 0, 0), (0, 0, 80, 0, 0, 0)]))) (
 .branch 3 (.leaf ([(0, 0, 255, 0, 0, 0)])) (
 .branch 4 (.leaf ([(0, -2147483648, 2147483647, 0, 0, 0), (0, 0, 80, 0, 0, 0), (0, 0, 80, 0, 0, 0), (0, -1, 80, 0, 0, 0)])) (.leaf ([(0, -2147483648, 2147483647, 0, 0, 0)]))))) (
 .branch 8 (
 .branch 6 (.leaf ([(0, -2147483648, 2147483647, 0, 0, 0), (0, 0, 12, 0, 0, 0)])) (
 .branch 7 (.leaf ([(1, 0, 0, 0, 0, 0)])) (.leaf ([(0, -2147483648, 2147483647, 0, 0, 0), (0, -2147483648, 2147483647, 0, 0, 0), (0, -2147483648, 2147483647, 0, 0, 0), (0, -2147483648, 2147483647, 0, 0, 0), (0, -2147483648, 2147483647, 0, 0, 0), (0, -2147483648, 2147483647, 0, 0, 0), (0, -2147483648, 2147483647, 0, 0, 0), (0, -2147483648, 2147483647, 0, 0, 0), (0, -2147483648, 2147483647, 0, 0, 0), (0, 0, 6, 0, 0, 0), (0, 0, 10, 0, 0, 0), (0, 0, 8, 0, 0, 0), (0, 0, 10, 0, 0, 0)])))) (
 .branch 9 (.leaf ([(0, -1, 99, 0, 0, 0)])) (
 .branch 10 (.leaf ([(0, 0, 9, 0, 0, 0)])) (.leaf ([(0, 0, 99, 0, 0, 0)])))))) (
 .branch 17 (
 .branch 14 (
 .branch 12 (.leaf ([(0, 0, 9, 0, 0, 0)])) (
 .branch 13 (.leaf ([(0, 0, 9, 0, 0, 0)])) (.leaf ([(0, 0, 5, 0, 0, 0)])))) (
 .branch 15 (.leaf ([(0, 0, 1023, 0, 0, 0)])) (
 .branch 16 (.leaf ([(0, 0, 1023, 0, 0, 0)])) (.leaf ([(0, 0, 9, 0, 0, 0)]))))) (
 .branch 20 (
 .branch 18 (.leaf ([(0, -2147483648, 2147483647, 0, 0, 0), (0, -2147483648, 2147483647, 0, 0, 0), (0, -2147483648, 2147483647, 0, 0, 0), (0, -2147483648, 2147483647, 0, 0, 0), (0, -2147483648, 2147483647, 0, 0, 0), (0, -2147483648, 2147483647, 0, 0, 0), (0, -2147483648, 2147483647, 0, 0, 0), (0, -2147483648, 2147483647, 0, 0, 0), (0, -2147483648, 2147483647, 0, 0, 0), (0, 0, 6, 0, 0, 0), (0, 0, 10, 0, 0, 0), (0, 0, 8, 0, 0, 0), (0, 0, 10, 0, 0, 0)])) (
 .branch 19 (.leaf ([(0, -1, 99, 0, 0, 0)])) (.leaf ([(0, 0, 9, 0, 0, 0)])))) (
 .branch 21 (.leaf ([(0, 0, 99, 0, 0, 0)])) (
 .branch 22 (.leaf ([(0, 0, 9, 0, 0, 0)])) (.leaf ([(0, 0, 9, 0, 0, 0)]))))))) (
 .branch 34 (
 .branch 28 (
 .branch 25 (
 .branch 24 (.leaf ([(0, 0, 5, 0, 0, 0)])) (.leaf ([(0, 0, 1023, 0, 0, 0)]))) (
 .branch 26 (.leaf ([(0, 0, 1023, 0, 0, 0)])) (
 .branch 27 (.leaf ([(0, 0, 9, 0, 0, 0)])) (.leaf ([(0, -2147483648, 2147483647, 0, 0, 0), (0, -2147483648, 2147483647, 0, 0, 0), (0, -2147483648, 2147483647, 0, 0, 0)]))))) (
 .branch 31 (
 .branch 29 (.leaf ([(0, -2147483648, 2147483647, 0, 0, 0), (0, 0, 80, 0, 0, 0)])) (
 .branch 30 (.leaf ([(0, 0, 255, 0, 0, 0)])) (.leaf ([(0, -2147483648, 2147483647, 0, 0, 0), (0, 0, 80, 0, 0, 0), (0, 0, 80, 0, 0, 0), (0, -1, 80, 0, 0, 0)])))) (
 .branch 32 (.leaf ([(1, 0, 0, 0, 0, 0)])) (
 .branch 33 (.leaf ([(0, -2147483648, 2147483647, 0, 0, 0), (0, -2147483648, 2147483647, 0, 0, 0), (0, -2147483648, 2147483647, 0, 0, 0), (0, -2147483648, 2147483647, 0, 0, 0), (0, -2147483648, 2147483647, 0, 0, 0), (0, -2147483648, 2147483647, 0, 0, 0), (0, 0, 6, 0, 0, 0), (0, 0, 10, 0, 0, 0), (0, 0, 1, 0, 0, 0), (0, 0, 1, 0, 0, 0), (1, 0, 0, 0, 0, 0), (1, 0, 0, 0, 0, 0)])) (.leaf ([(1, 0, 0, 0, 0, 0)])))))) (
 .branch 40 (
 .branch 37 (
 .branch 35 (.leaf ([(1, 0, 0, 0, 0, 0)])) (
 .branch 36 (.leaf ([(1, 0, 0, 0, 0, 0)])) (.leaf ([(0, -1, 5, 0, 0, 0)])))) (
 .branch 38 (.leaf ([(1, 0, 0, 0, 0, 0)])) (
 .branch 39 (.leaf ([(0, -1, 5, 0, 0, 0)])) (.leaf ([(0, -2147483648, 2147483647, 0, 0, 0), (0, -2147483648, 2147483647, 0, 0, 0), (0, -2147483648, 2147483647, 0, 0, 0), (0, 0, 20, 0, 0, 0)]))))) (
 .branch 43 (
 .branch 41 (.leaf ([(0, 0, 9, 0, 0, 0)])) (
 .branch 42 (.leaf ([(0, 0, 5, 0, 0, 0)])) (.leaf ([(1, 0, 0, 0, 0, 0)])))) (
 .branch 44 (.leaf ([(0, -2147483648, 2147483647, 0, 0, 0)])) (
 .branch 45 (.leaf ([(0, -2147483648, 2147483647, 0, 0, 0), (0, 0, 1, 0, 0, 0), (0, 0, 6, 0, 0, 0), (0, 0, 10, 0, 0, 0), (1, 0, 0, 0, 0, 0), (1, 0, 0, 0, 0, 0)])) (.leaf ([(0, 0, 5, 0, 0, 0)])))))))) (
 .branch 69 (
 .branch 57 (
 .branch 51 (
 .branch 48 (
 .branch 47 (.leaf ([(0, -2147483648, 2147483647, 0, 0, 0), (0, 0, 1, 0, 0, 0), (0, 0, 6, 0, 0, 0), (0, 0, 10, 0, 0, 0), (1, 0, 0, 0, 0, 0), (1, 0, 0, 0, 0, 0)])) (.leaf ([(0, 0, 5, 0, 0, 0)]))) (
 .branch 49 (.leaf ([(0, -2147483648, 2147483647, 0, 0, 0), (0, -2147483648, 2147483647, 0, 0, 0), (0, -2147483648, 2147483647, 0, 0, 0), (0, 0, 10, 0, 0, 0)])) (
 .branch 50 (.leaf ([(0, 0, 1, 0, 0, 0)])) (.leaf ([(0, 0, 9, 0, 0, 0)]))))) (
 .branch 54 (
 .branch 52 (.leaf ([(0, -200, 210, 0, 0, 0)])) (
 .branch 53 (.leaf ([(0, -2147483648, 2147483647, 0, 0, 0), (0, -2147483648, 2147483647, 0, 0, 0), (0, -2147483648, 2147483647, 0, 0, 0), (0, -2147483648, 2147483647, 0, 0, 0), (0, -2147483648, 2147483647, 0, 0, 0), (0, 0, 300, 0, 0, 0), (0, 0, 10, 0, 0, 0), (0, -1, 299, 0, 0, 0), (1, 0, 0, 0, 0, 0), (0, -1, 299, 0, 0, 0)])) (.leaf ([(1, 0, 0, 0, 0, 0)])))) (
 .branch 55 (.leaf ([(1, 0, 0, 0, 0, 0)])) (
 .branch 56 (.leaf ([(1, 0, 0, 0, 0, 0)])) (.leaf ([(1, 0, 0, 0, 0, 0)])))))) (
 .branch 63 (
 .branch 60 (
 .branch 58 (.leaf ([(1, 0, 0, 0, 0, 0)])) (
 .branch 59 (.leaf ([(0, -200, 210, 0, 0, 0)])) (.leaf ([(0, -200, 210, 0, 0, 0)])))) (
 .branch 61 (.leaf ([(0, 0, 6, 0, 0, 0), (0, -2147483648, 2147483647, 0, 0, 0), (0, -2147483648, 2147483647, 0, 0, 0), (0, 0, 10, 0, 0, 0), (0, -2147483648, 2147483647, 0, 0, 0), (0, -2147483648, 2147483647, 0, 0, 0), (0, -2147483648, 2147483647, 0, 0, 0), (0, -2147483648, 2147483647, 0, 0, 0), (0, 0, 8, 0, 0, 0), (0, -2147483648, 2147483647, 0, 0, 0), (1, 0, 0, 0, 0, 0), (1, 0, 0, 0, 0, 0), (0, 1, 999, 0, 0, 0), (0, -2147483648, 2147483647, 0, 0, 0), (0, 0, 80, 0, 0, 0), (0, -2147483648, 2147483647, 0, 0, 0), (0, 0, 16, 0, 0, 0), (0, 0, 1, 0, 0, 0), (0, 0, 200, 0, 0, 0), (0, 0, 80, 0, 0, 0), (0, 0, 80, 0, 0, 0), (0, 0, 80, 0, 0, 0), (0, -1, 80, 0, 0, 0), (0, -2147483648, 2147483647, 0, 0, 0), (0, -2147483648, 2147483647, 0, 0, 0), (0, 0, 40, 0, 0, 0), (0, -1, 9, 0, 0, 0), (0, 0, 5, 0, 0, 0), (0, -2147483648, 2147483647, 0, 0, 0), (0, -2147483648, 2147483647, 0, 0, 0), (0, 0, 10, 0, 0, 0), (0, -2147483648, 2147483647, 0, 0, 0), (0, -2147483648, 2147483647, 0, 0, 0), (0, 0, 20, 0, 0, 0), (0, -2147483648, 2147483647, 0, 0, 0), (0, -2147483648, 2147483647, 0, 0, 0), (0, -2147483648, 2147483647, 0, 0, 0), (0, -2147483648, 2147483647, 0, 0, 0), (1, 0, 0, 0, 0, 0), (0, 0, 1000000, 0, 0, 0), (0, -1, 1000000, 0, 0, 0), (0, -2147483648, 2147483647, 0, 0, 0), (0, -2147483648, 2147483647, 0, 0, 0), (0, 0, 10, 0, 0, 0), (0, 0, 1, 0, 0, 0), (0, -2147483648, 2147483647, 0, 0, 0), (0, -2147483648, 2147483647, 0, 0, 0), (0, -2147483648, 2147483647, 0, 0, 0), (0, 0, 301, 0, 0, 0), (0, -1, 300, 0, 0, 0), (0, -2147483648, 2147483647, 0, 0, 0), (0, -2147483648, 2147483647, 0, 0, 0), (1, 0, 0, 0, 0, 0), (0, -2147483648, 2147483647, 0, 0, 0), (0, -2147483648, 2147483647, 0, 0, 0), (0, -2147483648, 2147483647, 0, 0, 0)])) (
 .branch 62 (.leaf ([(1, 0, 0, 0, 0, 0)])) (.leaf ([(0, 0, 9, 0, 0, 0)]))))) (
 .branch 66 (
 .branch 64 (.leaf ([(0, 0, 99, 0, 0, 0)])) (
 .branch 65 (.leaf ([(0, 0, 9, 0, 0, 0)])) (.leaf ([(0, 0, 9, 0, 0, 0)])))) (
 .branch 67 (.leaf ([(0, 0, 5, 0, 0, 0)])) (
 .branch 68 (.leaf ([(0, 0, 1023, 0, 0, 0)])) (.leaf ([(0, -128, 127, 0, 0, 0)]))))))) (
 .branch 80 (
 .branch 74 (
 .branch 71 (
 .branch 70 (.leaf ([(1, 0, 0, 0, 0, 0)])) (.leaf ([(0, 0, 5, 0, 0, 0), (0, 0, 5, 0, 0, 0), (0, 0, 9, 0, 0, 0)]))) (
 .branch 72 (.leaf ([(0, -128, 127, 0, 0, 0)])) (
 .branch 73 (.leaf ([(0, 0, 9, 0, 0, 0)])) (.leaf ([(0, 0, 1023, 0, 0, 0)]))))) (
 .branch 77 (
 .branch 75 (.leaf ([(0, 0, 1000000, 0, 0, 0)])) (
 .branch 76 (.leaf ([(0, 0, 9, 0, 0, 0), (0, 0, 5, 0, 0, 0), (1, 0, 0, 0, 0, 0)])) (.leaf ([(0, -1000, 1000, 0, 0, 0)])))) (
 .branch 78 (.leaf ([(0, 0, 5, 0, 0, 0)])) (
 .branch 79 (.leaf ([(0, -1, 5, 0, 0, 0)])) (.leaf ([(0, -1, 5, 0, 0, 0)])))))) (
 .branch 86 (
 .branch 83 (
 .branch 81 (.leaf ([(0, -1, 5, 0, 0, 0)])) (
 .branch 82 (.leaf ([(0, 0, 5, 0, 0, 0)])) (.leaf ([(0, 0, 1, 0, 0, 0)])))) (
 .branch 84 (.leaf ([(0, 0, 5, 0, 0, 0)])) (
 .branch 85 (.leaf ([(0, 0, 100000000, 0, 0, 0)])) (.leaf ([(0, 0, 1000000, 0, 0, 0)]))))) (
 .branch 89 (
 .branch 87 (.leaf ([(0, 0, 1000000, 0, 0, 0)])) (
 .branch 88 (.leaf ([(0, 0, 5, 0, 0, 0), (0, 0, 5, 0, 0, 0), (0, 0, 5, 0, 0, 0), (0, 0, 5, 0, 0, 0), (0, 0, 5, 0, 0, 0), (0, 0, 5, 0, 0, 0), (0, 0, 5, 0, 0, 0), (0, 0, 5, 0, 0, 0), (0, 0, 5, 0, 0, 0), (0, 0, 5, 0, 0, 0), (1, 0, 0, 0, 0, 0), (1, 0, 0, 0, 0, 0)])) (.leaf ([(0, 0, 1, 0, 0, 0)])))) (
 .branch 90 (.leaf ([(1, 0, 0, 0, 0, 0)])) (
 .branch 91 (.leaf ([(1, 0, 0, 0, 0, 0)])) (.leaf ([]))))))))
def gT (o : Nat) : List aV := gTT.get o
def gFld (o k : Nat) : aV := (gT o).getD k eT
def gRow (o k : Nat) : aV := let l := gT o; l.getD (k % l.length) eT
def gTop (o : Nat) : aV := let l := gT o; bif Nat.beq l.length 1 then l.getD 0 eT else aOne
def gBot (o : Nat) : aV := let l := gT o; bif Nat.beq l.length 1 then l.getD 0 eT else aR 1 0
def gAll (o k : Nat) : aV := bif Nat.ble 100 (pK o) then (bif Nat.beq k 100000 then gTop o else bif Nat.beq k 100001 then gBot o else gRow o k) else gFld o k
theorem gLst {l : List aV} (h : l.all (fun a => decide (a.2.2.2.1 = 0) && decide (a.1 ≤ 1)) = true) (k : Nat) : (l.getD k eT).2.2.2.1 = 0 ∧ (l.getD k eT).1 ≤ 1 := by
  rw [List.getD_eq_getElem?_getD]
  cases e : l[k]? with
  | none => exact ⟨rfl, by decide⟩
  | some a =>
    have := List.all_eq_true.mp h a (List.mem_of_getElem? e)
    rw [Bool.and_eq_true, decide_eq_true_eq, decide_eq_true_eq] at this
    exact this
theorem gTabL (o : Nat) : (gT o).all (fun a => decide (a.2.2.2.1 = 0) && decide (a.1 ≤ 1)) = true :=
  ra_all (p := fun l => l.all (fun a => decide (a.2.2.2.1 = 0) && decide (a.1 ≤ 1))) gTT (by decide +kernel) o
theorem gAll_k (o k : Nat) : (gAll o k).2.2.2.1 = 0 ∧ (gAll o k).1 ≤ 2 := by
  have L := gLst (gTabL o)
  have L1 : ∀ k, ((gT o).getD k eT).2.2.2.1 = 0 ∧ ((gT o).getD k eT).1 ≤ 2 := fun k => ⟨(L k).1, by have := (L k).2; omega⟩
  unfold gAll
  cases Nat.ble 100 (pK o)
  · exact L1 k
  · cases Nat.beq k 100000
    · cases Nat.beq k 100001
      · exact L1 _
      · show (gBot o).2.2.2.1 = 0 ∧ (gBot o).1 ≤ 2
        unfold gBot
        dsimp only
        cases Nat.beq (gT o).length 1
        · exact ⟨rfl, show (0 : Nat) ≤ 2 by decide⟩
        · exact L1 0
    · show (gTop o).2.2.2.1 = 0 ∧ (gTop o).1 ≤ 2
      unfold gTop
      dsimp only
      cases Nat.beq (gT o).length 1
      · exact ⟨rfl, show (1 : Nat) ≤ 2 by decide⟩
      · exact L1 0
theorem gAll_wf (E : aE) (hE : E.1 = gAll) : aWF E := by
  refine ⟨fun o k => by rw [hE]; exact gAll_k o k, fun o k ho hk z => ?_⟩
  have b : Nat.ble 100 (pK o) = true := Nat.ble_eq_true_of_le ho
  have hk2 : k < 100000 := Nat.lt_of_lt_of_le hk (pL_le o)
  have n1 : Nat.beq k 100000 = false := by
    cases q : Nat.beq k 100000
    · rfl
    · have := Nat.eq_of_beq_eq_true q; omega
  have n2 : Nat.beq k 100001 = false := by
    cases q : Nat.beq k 100001
    · rfl
    · have := Nat.eq_of_beq_eq_true q; omega
  have e0 : E.1 o k = gRow o k := by rw [hE]; unfold gAll; rw [b, n1, n2]; rfl
  have e1 : E.1 o 100000 = gTop o := by rw [hE]; unfold gAll; rw [b]; rfl
  have e2 : E.1 o 100001 = gBot o := by rw [hE]; unfold gAll; rw [b]; rfl
  rw [e0, e1, e2]
  unfold gRow gTop gBot
  dsimp only
  cases q : Nat.beq (gT o).length 1 with
  | true =>
    have q1 := Nat.eq_of_beq_eq_true q
    rw [q1, Nat.mod_one]
    exact ⟨id, id⟩
  | false =>
    refine ⟨fun _ => one_ok, fun h => ?_⟩
    exfalso
    rcases h with h | h | h
    · have h1 : (1 : Int) ≤ z := h.2.1
      have h2 : z ≤ 0 := h.2.2
      omega
    · exact absurd (show (0 : Nat) = 1 from h) (by decide)
    · exact absurd (show (0 : Nat) = 2 from h.1) (by decide)
end
section
/-! numbers: where the machine's ints are small they are ints; bits of small naturals -/
theorem toI_id {z : Int} (h1 : -2147483648 ≤ z) (h2 : z < 2147483648) : (iI z).toInt = z := by
  show (Int32.ofInt z).toInt = z
  rw [Int32.toInt_ofInt, show Int32.size = 4294967296 from rfl]
  exact Int.bmod_eq_of_le (by omega) (by omega)
theorem lt32_iff {x y : Int} (h1 : -2147483648 ≤ x) (h2 : x < 2147483648) (h3 : -2147483648 ≤ y) (h4 : y < 2147483648) : lt32 x y ↔ x < y := by
  show iI x < iI y ↔ x < y
  rw [Int32.lt_iff_toInt_lt, toI_id h1 h2, toI_id h3 h4]
theorem le32_iff {x y : Int} (h1 : -2147483648 ≤ x) (h2 : x < 2147483648) (h3 : -2147483648 ≤ y) (h4 : y < 2147483648) : le32 x y ↔ x ≤ y := by
  show iI x ≤ iI y ↔ x ≤ y
  rw [Int32.le_iff_toInt_le, toI_id h1 h2, toI_id h3 h4]
theorem eq32_iff {x y : Int} (h1 : -2147483648 ≤ x) (h2 : x < 2147483648) (h3 : -2147483648 ≤ y) (h4 : y < 2147483648) : eq32 x y ↔ x = y := by
  show iI x = iI y ↔ x = y
  rw [← Int32.toInt_inj, toI_id h1 h2, toI_id h3 h4]
theorem r32a (x : Int32) : -2147483648 ≤ x.toInt := x.le_toInt
theorem r32b (x : Int32) : x.toInt < 2147483648 := x.toInt_lt
abbrev rI (v : Int) (M : pM) : Option pR := some (some (.inl v), M)
abbrev rV (M : pM) : Option pR := some (none, M)
theorem pbI_rI (v : Int) (M : pM) (f : Int → pM → Option pR) : pbI (some (some (.inl v), M)) f = f v M := rfl
theorem pbN_rV (M : pM) (f : pM → Option pR) : pbN (some (none, M)) f = f M := rfl
theorem bv_nat {a : Nat} (h : a < 2147483648) : (iI (a : Int)).toBitVec.toNat = a := by
  show (BitVec.ofInt 32 (a : Int)).toNat = a
  rw [BitVec.toNat_ofInt]
  omega
theorem b32_nat {f : Int32 → Int32 → Int32} {a b c : Nat} (h : (f (iI (a : Int)) (iI (b : Int))).toBitVec.toNat = c) (hc : c < 2147483648) : b32 f a b = (c : Int) := by
  unfold b32
  show (f (iI (a : Int)) (iI (b : Int))).toBitVec.toInt = _
  rw [BitVec.toInt_eq_toNat_of_lt (by omega), h]
theorem jor_nat {a b : Nat} (ha : a < 2147483648) (hb : b < 2147483648) : jor (a : Int) (b : Int) = ((a ||| b : Nat) : Int) := by
  refine b32_nat ?_ (Nat.or_lt_two_pow (n := 31) ha hb)
  show ((iI (a : Int)).toBitVec ||| (iI (b : Int)).toBitVec).toNat = _
  rw [BitVec.toNat_or, bv_nat ha, bv_nat hb]
theorem jand_nat {a b : Nat} (ha : a < 2147483648) (hb : b < 2147483648) : jand (a : Int) (b : Int) = ((a &&& b : Nat) : Int) := by
  refine b32_nat ?_ (Nat.lt_of_le_of_lt Nat.and_le_left ha)
  show ((iI (a : Int)).toBitVec &&& (iI (b : Int)).toBitVec).toNat = _
  rw [BitVec.toNat_and, bv_nat ha, bv_nat hb]
theorem jshl_one : ∀ t : Nat, t < 31 → jshl 1 (t : Int) = ((2 ^ t : Nat) : Int) := by decide +kernel
theorem sh_nat : ∀ t : Nat, t < 32 → ((iI (t : Int)) &&& (31 : Int32)).toBitVec.smod 32 = BitVec.ofNat 32 t := by decide +kernel
theorem jshr_nat {a t : Nat} (ha : a < 2147483648) (ht : t < 32) : jshr (a : Int) (t : Int) = ((a >>> t : Nat) : Int) := by
  refine b32_nat ?_ (Nat.lt_of_le_of_lt (Nat.shiftRight_le a t) ha)
  show (BitVec.sshiftRight' (iI (a : Int)).toBitVec (((iI (t : Int)) &&& (31 : Int32)).toBitVec.smod 32)).toNat = _
  rw [sh_nat t ht, BitVec.toNat_sshiftRight'_of_msb_false, bv_nat ha]
  · simp only [BitVec.toNat_ofNat]
    rw [Nat.mod_eq_of_lt (by omega)]
  · rw [BitVec.msb_eq_decide, bv_nat ha]
    simp only [decide_eq_false_iff_not]
    omega
theorem jand_one {a : Nat} (ha : a < 2147483648) : jand (a : Int) 1 = ((a % 2 : Nat) : Int) := by
  have h := jand_nat (b := 1) ha (by decide)
  rw [Nat.and_one_is_mod] at h
  exact h
/-- a without the bits of b -/
def nan (a b : Nat) : Nat := a ^^^ (a &&& b)
theorem nan_bit (a b i : Nat) : (nan a b).testBit i = (a.testBit i && !b.testBit i) := by
  unfold nan
  rw [Nat.testBit_xor, Nat.testBit_and]
  cases a.testBit i <;> cases b.testBit i <;> rfl
theorem nan_le (a b : Nat) : nan a b ≤ a := by
  apply Nat.le_of_testBit
  intro i h
  rw [nan_bit] at h
  exact (Bool.and_eq_true_iff.mp h).1
theorem jxor_m1 {b : Nat} (hb : b < 2147483648) : jxor (b : Int) (-1) = -(b : Int) - 1 := by
  unfold jxor b32
  have e : (iI (b : Int) ^^^ iI (-1)) = iI (-(b : Int) - 1) := by
    apply Int32.toBitVec_inj.mp
    show (iI (b : Int)).toBitVec ^^^ (BitVec.ofInt 32 (-1)) = BitVec.ofInt 32 (-(b : Int) - 1)
    have e1 : BitVec.ofInt 32 (-1) = BitVec.allOnes 32 := by decide
    rw [e1, BitVec.xor_allOnes]
    apply BitVec.eq_of_toNat_eq
    rw [BitVec.toNat_not, bv_nat hb, BitVec.toNat_ofInt]
    omega
  show (iI (b : Int) ^^^ iI (-1)).toInt = _
  rw [e, toI_id (by omega) (by omega)]
theorem jand_not {a b : Nat} (ha : a < 2147483648) (hb : b < 2147483648) : jand (a : Int) (-(b : Int) - 1) = ((nan a b : Nat) : Int) := by
  unfold jand b32
  have e1 : (iI (-(b : Int) - 1)).toBitVec = ~~~ (iI (b : Int)).toBitVec := by
    apply BitVec.eq_of_toNat_eq
    rw [BitVec.toNat_not, bv_nat hb]
    show (BitVec.ofInt 32 (-(b : Int) - 1)).toNat = _
    rw [BitVec.toNat_ofInt]
    omega
  have e2 : ((iI (a : Int)).toBitVec &&& ~~~ (iI (b : Int)).toBitVec).toNat = nan a b := by
    apply Nat.eq_of_testBit_eq
    intro i
    rw [nan_bit, BitVec.toNat_and, Nat.testBit_and, bv_nat ha]
    rcases Nat.lt_or_ge i 32 with h | h
    · congr 1
      rw [BitVec.testBit_toNat, BitVec.getLsbD_not, ← BitVec.testBit_toNat, bv_nat hb]
      simp [h]
    · rw [Nat.testBit_lt_two_pow (x := a) (Nat.lt_of_lt_of_le ha (Nat.pow_le_pow_right (n := 2) (i := 31) (by decide) (by omega)))]
      simp
  show ((iI (a : Int)).toBitVec &&& (iI (-(b : Int) - 1)).toBitVec).toInt = _
  rw [e1, BitVec.toInt_eq_toNat_of_lt (by rw [e2]; have := nan_le a b; omega), e2]
theorem jdiv_nat {a b : Nat} (ha : a < 2147483648) (hb : b < 2147483648) (h0 : b ≠ 0) : jdiv (a : Int) (b : Int) = ((a / b : Nat) : Int) := by
  unfold jdiv b32
  rw [Int32.toInt_div_of_ne_right _ _ (by
    intro h
    have := congrArg Int32.toInt h
    rw [toI_id (by omega) (by omega)] at this
    have h9 : Int32.toInt (-1) = -1 := by decide
    rw [h9] at this
    omega), toI_id (by omega) (by omega), toI_id (by omega) (by omega)]
  exact (Int.ofNat_tdiv a b).symm
theorem jrem_nat {a b : Nat} (ha : a < 2147483648) (hb : b < 2147483648) (h0 : b ≠ 0) : jrem (a : Int) (b : Int) = ((a % b : Nat) : Int) := by
  have h1 := jdiv_nat ha hb h0
  unfold jdiv b32 at h1
  unfold jrem b32
  have e : iI (a : Int) - iI (a : Int) / iI (b : Int) * iI (b : Int) = iI ((a % b : Nat) : Int) := by
    have e2 : iI (a : Int) / iI (b : Int) = iI (((a / b : Nat)) : Int) := by
      have := congrArg Int32.ofInt h1
      rw [Int32.ofInt_toInt] at this
      exact this
    rw [e2]
    show Int32.ofInt _ - Int32.ofInt _ * Int32.ofInt _ = Int32.ofInt _
    rw [← Int32.ofInt_mul, ← Int32.ofInt_sub]
    congr 1
    have := Nat.div_add_mod a b
    have h3 : ((b * (a / b) + a % b : Nat) : Int) = (a : Int) := by rw [this]
    rw [Int.natCast_add, Int.natCast_mul] at h3
    rw [Int.mul_comm]
    omega
  show (iI (a : Int) - iI (a : Int) / iI (b : Int) * iI (b : Int)).toInt = _
  rw [e]
  have : a % b < b := Nat.mod_lt _ (Nat.pos_of_ne_zero h0)
  exact toI_id (by omega) (by omega)
theorem jmax_eq {x y : Int} (h1 : -2147483648 ≤ x) (h2 : x < 2147483648) (h3 : -2147483648 ≤ y) (h4 : y < 2147483648) : jmax x y = max x y := by
  unfold jmax
  simp only [lt32_iff h1 h2 h3 h4, toI_id h1 h2, toI_id h3 h4]
  split <;> omega
theorem jmin_eq {x y : Int} (h1 : -2147483648 ≤ x) (h2 : x < 2147483648) (h3 : -2147483648 ≤ y) (h4 : y < 2147483648) : jmin x y = min x y := by
  unfold jmin
  simp only [lt32_iff h3 h4 h1 h2, toI_id h1 h2, toI_id h3 h4]
  split <;> omega
theorem clamp_range (x : Int) : 1 ≤ jmax 1 (jmin 9 x) ∧ jmax 1 (jmin 9 x) ≤ 9 := by
  have h : -2147483648 ≤ jmin 9 x ∧ jmin 9 x ≤ 9 := by
    unfold jmin
    by_cases q : lt32 x 9
    · rw [if_pos q]
      have q2 : (iI x).toInt < (iI 9).toInt := Int32.lt_iff_toInt_lt.mp q
      have e9 : (iI 9).toInt = 9 := toI_id (by decide) (by decide)
      have := r32a (iI x)
      omega
    · rw [if_neg q]
      have e9 : (iI 9).toInt = 9 := toI_id (by decide) (by decide)
      omega
  rw [jmax_eq (by decide) (by decide) (by omega) (by omega)]
  omega
/-- bits of a property of 0 .. n - 1 -/
def bitsOf (c : Nat → Bool) : Nat → Nat
  | 0 => 0
  | n + 1 => if c n then bitsOf c n ||| 2 ^ n else bitsOf c n
theorem bitsOf_lt (c : Nat → Bool) : ∀ n, bitsOf c n < 2 ^ n
  | 0 => Nat.lt_succ_self 0
  | n + 1 => by
    have h := bitsOf_lt c n
    have h2 : 2 ^ n < 2 ^ (n + 1) := Nat.pow_lt_pow_right (by decide) (Nat.lt_succ_self n)
    unfold bitsOf
    split
    · exact Nat.or_lt_two_pow (Nat.lt_trans h h2) h2
    · exact Nat.lt_trans h h2
theorem bitsOf_bit (c : Nat → Bool) : ∀ n i, (bitsOf c n).testBit i = (decide (i < n) && c i)
  | 0, i => by simp [bitsOf]
  | n + 1, i => by
    have h := bitsOf_bit c n i
    unfold bitsOf
    by_cases e : i = n
    · subst e
      split
      · rename_i hc
        rw [Nat.testBit_or, h, Nat.testBit_two_pow_self]
        simp [hc]
      · rename_i hc
        rw [h]
        simp [hc]
    · split
      · rw [Nat.testBit_or, h, Nat.testBit_two_pow_of_ne (fun q => e q.symm)]
        by_cases h1 : i < n
        · simp [h1, Nat.lt_succ_of_lt h1]
        · have : ¬ i < n + 1 := by omega
          simp [h1, this]
      · rw [h]
        by_cases h1 : i < n
        · simp [h1, Nat.lt_succ_of_lt h1]
        · have : ¬ i < n + 1 := by omega
          simp [h1, this]
theorem bitsOf_congr {c c' : Nat → Bool} : ∀ {n : Nat}, (∀ i, i < n → c i = c' i) → bitsOf c n = bitsOf c' n
  | 0, _ => rfl
  | n + 1, h => by
    unfold bitsOf
    rw [h n (Nat.lt_succ_self n), bitsOf_congr fun i hi => h i (Nat.lt_succ_of_lt hi)]
end
section
/-! copy and numberAt, everywhere (by program) -/
theorem dsucc {d h : Nat} (hd : h + 1 ≤ d) : ∃ D, d = D + 1 ∧ h ≤ D := ⟨d - 1, by omega, by omega⟩
/-- the first n places of object a at object b -/
def pcp (M : pM) (a b n : Nat) : pM := fun o i => if o = b ∧ i < n then M a i else M o i
theorem pcp_zero (M : pM) (a b : Nat) : pcp M a b 0 = M := by
  funext o i
  unfold pcp
  rw [if_neg (fun h => Nat.not_lt_zero _ h.2)]
theorem pcp_succ {M : pM} {a b : Nat} (h : a ≠ b) (i : Nat) : pset (pcp M a b i) b i (pcp M a b i a i) = pcp M a b (i + 1) := by
  have e : pcp M a b i a i = M a i := by unfold pcp; rw [if_neg (fun q => h q.1)]
  rw [e]
  funext o j
  unfold pset pcp
  by_cases h1 : o = b
  · subst h1
    by_cases h2 : j = i
    · subst h2
      rw [if_pos ⟨rfl, rfl⟩, if_pos ⟨rfl, Nat.lt_succ_self _⟩]
    · rw [if_neg (fun q => h2 q.2)]
      by_cases h3 : j < i
      · rw [if_pos ⟨rfl, h3⟩, if_pos ⟨rfl, Nat.lt_succ_of_lt h3⟩]
      · rw [if_neg (fun q => h3 q.2), if_neg (fun q => by have := q.2; omega)]
  · rw [if_neg (fun q => h1 q.1), if_neg (fun q => h1 q.1), if_neg (fun q => h1 q.1)]
theorem c_numberAt_13 {d : Nat} (hd : 1 ≤ d) {b : Int} {M : pM} (h1 : -2147483648 ≤ b) (h2 : b < 2147483648) : xF d 47 [.inr 15, .inl b] M = rI (if 0 ≤ b ∧ b < 10 then M 13 b.toNat else 0) M := by
  obtain ⟨D, rfl, -⟩ := dsucc hd
  rw [T_X_numberAt_13]
  simp (disch := omega) only [lt32_iff, le32_iff]
  by_cases q : b < 0
  · rw [if_pos q, if_neg (fun h => by omega)]
  · rw [if_neg q]
    by_cases q2 : (10 : Int) ≤ b
    · rw [if_pos q2, if_neg (fun h => by omega)]
    · rw [if_neg q2, if_pos (by omega), if_pos (by omega)]
theorem c_numberAt_13n {d : Nat} (hd : 1 ≤ d) {t : Nat} {M : pM} (ht : t < 10) : xF d 47 [.inr 15, .inl (t : Int)] M = rI (M 13 t) M := by
  rw [c_numberAt_13 hd (by omega) (by omega), if_pos (by omega), Int.toNat_natCast]
theorem c_numberAt_40 {d : Nat} (hd : 1 ≤ d) {b : Int} {M : pM} (h1 : -2147483648 ≤ b) (h2 : b < 2147483648) : xF d 47 [.inr 42, .inl b] M = rI (if 0 ≤ b ∧ b < 20 then M 40 b.toNat else 0) M := by
  obtain ⟨D, rfl, -⟩ := dsucc hd
  rw [T_X_numberAt_40]
  simp (disch := omega) only [lt32_iff, le32_iff]
  by_cases q : b < 0
  · rw [if_pos q, if_neg (fun h => by omega)]
  · rw [if_neg q]
    by_cases q2 : (20 : Int) ≤ b
    · rw [if_pos q2, if_neg (fun h => by omega)]
    · rw [if_neg q2, if_pos (by omega), if_pos (by omega)]
theorem c_numberAt_40n {d : Nat} (hd : 1 ≤ d) {t : Nat} {M : pM} (ht : t < 20) : xF d 47 [.inr 42, .inl (t : Int)] M = rI (M 40 t) M := by
  rw [c_numberAt_40 hd (by omega) (by omega), if_pos (by omega), Int.toNat_natCast]
theorem c_numberAt_41 {d : Nat} (hd : 1 ≤ d) {b : Int} {M : pM} (h1 : -2147483648 ≤ b) (h2 : b < 2147483648) : xF d 47 [.inr 43, .inl b] M = rI (if 0 ≤ b ∧ b < 20 then M 41 b.toNat else 0) M := by
  obtain ⟨D, rfl, -⟩ := dsucc hd
  rw [T_X_numberAt_41]
  simp (disch := omega) only [lt32_iff, le32_iff]
  by_cases q : b < 0
  · rw [if_pos q, if_neg (fun h => by omega)]
  · rw [if_neg q]
    by_cases q2 : (20 : Int) ≤ b
    · rw [if_pos q2, if_neg (fun h => by omega)]
    · rw [if_neg q2, if_pos (by omega), if_pos (by omega)]
theorem c_numberAt_41n {d : Nat} (hd : 1 ≤ d) {t : Nat} {M : pM} (ht : t < 20) : xF d 47 [.inr 43, .inl (t : Int)] M = rI (M 41 t) M := by
  rw [c_numberAt_41 hd (by omega) (by omega), if_pos (by omega), Int.toNat_natCast]
theorem c_numberAt_42 {d : Nat} (hd : 1 ≤ d) {b : Int} {M : pM} (h1 : -2147483648 ≤ b) (h2 : b < 2147483648) : xF d 47 [.inr 44, .inl b] M = rI (if 0 ≤ b ∧ b < 20 then M 42 b.toNat else 0) M := by
  obtain ⟨D, rfl, -⟩ := dsucc hd
  rw [T_X_numberAt_42]
  simp (disch := omega) only [lt32_iff, le32_iff]
  by_cases q : b < 0
  · rw [if_pos q, if_neg (fun h => by omega)]
  · rw [if_neg q]
    by_cases q2 : (20 : Int) ≤ b
    · rw [if_pos q2, if_neg (fun h => by omega)]
    · rw [if_neg q2, if_pos (by omega), if_pos (by omega)]
theorem c_numberAt_42n {d : Nat} (hd : 1 ≤ d) {t : Nat} {M : pM} (ht : t < 20) : xF d 47 [.inr 44, .inl (t : Int)] M = rI (M 42 t) M := by
  rw [c_numberAt_42 hd (by omega) (by omega), if_pos (by omega), Int.toNat_natCast]
theorem c_numberAt_59 {d : Nat} (hd : 1 ≤ d) {b : Int} {M : pM} (h1 : -2147483648 ≤ b) (h2 : b < 2147483648) : xF d 47 [.inr 61, .inl b] M = rI (if 0 ≤ b ∧ b < 10 then M 59 b.toNat else 0) M := by
  obtain ⟨D, rfl, -⟩ := dsucc hd
  rw [T_X_numberAt_59]
  simp (disch := omega) only [lt32_iff, le32_iff]
  by_cases q : b < 0
  · rw [if_pos q, if_neg (fun h => by omega)]
  · rw [if_neg q]
    by_cases q2 : (10 : Int) ≤ b
    · rw [if_pos q2, if_neg (fun h => by omega)]
    · rw [if_neg q2, if_pos (by omega), if_pos (by omega)]
theorem c_numberAt_59n {d : Nat} (hd : 1 ≤ d) {t : Nat} {M : pM} (ht : t < 10) : xF d 47 [.inr 61, .inl (t : Int)] M = rI (M 59 t) M := by
  rw [c_numberAt_59 hd (by omega) (by omega), if_pos (by omega), Int.toNat_natCast]
theorem c_copy_8_18 {d : Nat} (hd : 1 ≤ d) {M : pM} : xF d 48 [.inr 10, .inr 20] M = rV (pcp M 8 18 6) := by
  obtain ⟨D, rfl, -⟩ := dsucc hd
  rw [T_X_copy_8_18]
  have key : ∀ m i : Nat, i + m = 6 → xE D 48 2 [.inr 10, .inr 20, .inl (i : Int)] [] (pcp M 8 18 i) = rV (pcp M 8 18 6) := by
    intro m
    induction m with
    | zero =>
      intro i hi
      have hi : i = 6 := by omega
      subst hi
      rw [L_X_copy_8_18_2, if_pos (by rw [le32_iff] <;> omega)]
    | succ m ih =>
      intro i hi
      rw [L_X_copy_8_18_2, if_neg (by rw [le32_iff] <;> omega), if_neg (by rw [le32_iff] <;> omega), if_pos (by omega), if_pos (by omega), Int.toNat_natCast, pcp_succ (by decide)]
      exact ih (i + 1) (by omega)
  have h := key 6 0 (by omega)
  rw [pcp_zero] at h
  exact h
theorem c_copy_9_19 {d : Nat} (hd : 1 ≤ d) {M : pM} : xF d 48 [.inr 11, .inr 21] M = rV (pcp M 9 19 36) := by
  obtain ⟨D, rfl, -⟩ := dsucc hd
  rw [T_X_copy_9_19]
  have key : ∀ m i : Nat, i + m = 36 → xE D 48 2 [.inr 11, .inr 21, .inl (i : Int)] [] (pcp M 9 19 i) = rV (pcp M 9 19 36) := by
    intro m
    induction m with
    | zero =>
      intro i hi
      have hi : i = 36 := by omega
      subst hi
      rw [L_X_copy_9_19_2, if_pos (by rw [le32_iff] <;> omega)]
    | succ m ih =>
      intro i hi
      rw [L_X_copy_9_19_2, if_neg (by rw [le32_iff] <;> omega), if_neg (by rw [le32_iff] <;> omega), if_pos (by omega), if_pos (by omega), Int.toNat_natCast, pcp_succ (by decide)]
      exact ih (i + 1) (by omega)
  have h := key 36 0 (by omega)
  rw [pcp_zero] at h
  exact h
theorem c_copy_10_20 {d : Nat} (hd : 1 ≤ d) {M : pM} : xF d 48 [.inr 12, .inr 22] M = rV (pcp M 10 20 10) := by
  obtain ⟨D, rfl, -⟩ := dsucc hd
  rw [T_X_copy_10_20]
  have key : ∀ m i : Nat, i + m = 10 → xE D 48 2 [.inr 12, .inr 22, .inl (i : Int)] [] (pcp M 10 20 i) = rV (pcp M 10 20 10) := by
    intro m
    induction m with
    | zero =>
      intro i hi
      have hi : i = 10 := by omega
      subst hi
      rw [L_X_copy_10_20_2, if_pos (by rw [le32_iff] <;> omega)]
    | succ m ih =>
      intro i hi
      rw [L_X_copy_10_20_2, if_neg (by rw [le32_iff] <;> omega), if_neg (by rw [le32_iff] <;> omega), if_pos (by omega), if_pos (by omega), Int.toNat_natCast, pcp_succ (by decide)]
      exact ih (i + 1) (by omega)
  have h := key 10 0 (by omega)
  rw [pcp_zero] at h
  exact h
theorem c_copy_11_21 {d : Nat} (hd : 1 ≤ d) {M : pM} : xF d 48 [.inr 13, .inr 23] M = rV (pcp M 11 21 10) := by
  obtain ⟨D, rfl, -⟩ := dsucc hd
  rw [T_X_copy_11_21]
  have key : ∀ m i : Nat, i + m = 10 → xE D 48 2 [.inr 13, .inr 23, .inl (i : Int)] [] (pcp M 11 21 i) = rV (pcp M 11 21 10) := by
    intro m
    induction m with
    | zero =>
      intro i hi
      have hi : i = 10 := by omega
      subst hi
      rw [L_X_copy_11_21_2, if_pos (by rw [le32_iff] <;> omega)]
    | succ m ih =>
      intro i hi
      rw [L_X_copy_11_21_2, if_neg (by rw [le32_iff] <;> omega), if_neg (by rw [le32_iff] <;> omega), if_pos (by omega), if_pos (by omega), Int.toNat_natCast, pcp_succ (by decide)]
      exact ih (i + 1) (by omega)
  have h := key 10 0 (by omega)
  rw [pcp_zero] at h
  exact h
theorem c_copy_12_22 {d : Nat} (hd : 1 ≤ d) {M : pM} : xF d 48 [.inr 14, .inr 24] M = rV (pcp M 12 22 10) := by
  obtain ⟨D, rfl, -⟩ := dsucc hd
  rw [T_X_copy_12_22]
  have key : ∀ m i : Nat, i + m = 10 → xE D 48 2 [.inr 14, .inr 24, .inl (i : Int)] [] (pcp M 12 22 i) = rV (pcp M 12 22 10) := by
    intro m
    induction m with
    | zero =>
      intro i hi
      have hi : i = 10 := by omega
      subst hi
      rw [L_X_copy_12_22_2, if_pos (by rw [le32_iff] <;> omega)]
    | succ m ih =>
      intro i hi
      rw [L_X_copy_12_22_2, if_neg (by rw [le32_iff] <;> omega), if_neg (by rw [le32_iff] <;> omega), if_pos (by omega), if_pos (by omega), Int.toNat_natCast, pcp_succ (by decide)]
      exact ih (i + 1) (by omega)
  have h := key 10 0 (by omega)
  rw [pcp_zero] at h
  exact h
theorem c_copy_13_23 {d : Nat} (hd : 1 ≤ d) {M : pM} : xF d 48 [.inr 15, .inr 25] M = rV (pcp M 13 23 10) := by
  obtain ⟨D, rfl, -⟩ := dsucc hd
  rw [T_X_copy_13_23]
  have key : ∀ m i : Nat, i + m = 10 → xE D 48 2 [.inr 15, .inr 25, .inl (i : Int)] [] (pcp M 13 23 i) = rV (pcp M 13 23 10) := by
    intro m
    induction m with
    | zero =>
      intro i hi
      have hi : i = 10 := by omega
      subst hi
      rw [L_X_copy_13_23_2, if_pos (by rw [le32_iff] <;> omega)]
    | succ m ih =>
      intro i hi
      rw [L_X_copy_13_23_2, if_neg (by rw [le32_iff] <;> omega), if_neg (by rw [le32_iff] <;> omega), if_pos (by omega), if_pos (by omega), Int.toNat_natCast, pcp_succ (by decide)]
      exact ih (i + 1) (by omega)
  have h := key 10 0 (by omega)
  rw [pcp_zero] at h
  exact h
theorem c_copy_13_45 {d : Nat} (hd : 1 ≤ d) {M : pM} : xF d 48 [.inr 15, .inr 47] M = rV (pcp M 13 45 10) := by
  obtain ⟨D, rfl, -⟩ := dsucc hd
  rw [T_X_copy_13_45]
  have key : ∀ m i : Nat, i + m = 10 → xE D 48 2 [.inr 15, .inr 47, .inl (i : Int)] [] (pcp M 13 45 i) = rV (pcp M 13 45 10) := by
    intro m
    induction m with
    | zero =>
      intro i hi
      have hi : i = 10 := by omega
      subst hi
      rw [L_X_copy_13_45_2, if_pos (by rw [le32_iff] <;> omega)]
    | succ m ih =>
      intro i hi
      rw [L_X_copy_13_45_2, if_neg (by rw [le32_iff] <;> omega), if_neg (by rw [le32_iff] <;> omega), if_pos (by omega), if_pos (by omega), Int.toNat_natCast, pcp_succ (by decide)]
      exact ih (i + 1) (by omega)
  have h := key 10 0 (by omega)
  rw [pcp_zero] at h
  exact h
theorem c_copy_13_47 {d : Nat} (hd : 1 ≤ d) {M : pM} : xF d 48 [.inr 15, .inr 49] M = rV (pcp M 13 47 10) := by
  obtain ⟨D, rfl, -⟩ := dsucc hd
  rw [T_X_copy_13_47]
  have key : ∀ m i : Nat, i + m = 10 → xE D 48 2 [.inr 15, .inr 49, .inl (i : Int)] [] (pcp M 13 47 i) = rV (pcp M 13 47 10) := by
    intro m
    induction m with
    | zero =>
      intro i hi
      have hi : i = 10 := by omega
      subst hi
      rw [L_X_copy_13_47_2, if_pos (by rw [le32_iff] <;> omega)]
    | succ m ih =>
      intro i hi
      rw [L_X_copy_13_47_2, if_neg (by rw [le32_iff] <;> omega), if_neg (by rw [le32_iff] <;> omega), if_pos (by omega), if_pos (by omega), Int.toNat_natCast, pcp_succ (by decide)]
      exact ih (i + 1) (by omega)
  have h := key 10 0 (by omega)
  rw [pcp_zero] at h
  exact h
theorem c_copy_13_59 {d : Nat} (hd : 1 ≤ d) {M : pM} : xF d 48 [.inr 15, .inr 61] M = rV (pcp M 13 59 10) := by
  obtain ⟨D, rfl, -⟩ := dsucc hd
  rw [T_X_copy_13_59]
  have key : ∀ m i : Nat, i + m = 10 → xE D 48 2 [.inr 15, .inr 61, .inl (i : Int)] [] (pcp M 13 59 i) = rV (pcp M 13 59 10) := by
    intro m
    induction m with
    | zero =>
      intro i hi
      have hi : i = 10 := by omega
      subst hi
      rw [L_X_copy_13_59_2, if_pos (by rw [le32_iff] <;> omega)]
    | succ m ih =>
      intro i hi
      rw [L_X_copy_13_59_2, if_neg (by rw [le32_iff] <;> omega), if_neg (by rw [le32_iff] <;> omega), if_pos (by omega), if_pos (by omega), Int.toNat_natCast, pcp_succ (by decide)]
      exact ih (i + 1) (by omega)
  have h := key 10 0 (by omega)
  rw [pcp_zero] at h
  exact h
theorem c_copy_14_24 {d : Nat} (hd : 1 ≤ d) {M : pM} : xF d 48 [.inr 16, .inr 26] M = rV (pcp M 14 24 8) := by
  obtain ⟨D, rfl, -⟩ := dsucc hd
  rw [T_X_copy_14_24]
  have key : ∀ m i : Nat, i + m = 8 → xE D 48 2 [.inr 16, .inr 26, .inl (i : Int)] [] (pcp M 14 24 i) = rV (pcp M 14 24 8) := by
    intro m
    induction m with
    | zero =>
      intro i hi
      have hi : i = 8 := by omega
      subst hi
      rw [L_X_copy_14_24_2, if_pos (by rw [le32_iff] <;> omega)]
    | succ m ih =>
      intro i hi
      rw [L_X_copy_14_24_2, if_neg (by rw [le32_iff] <;> omega), if_neg (by rw [le32_iff] <;> omega), if_pos (by omega), if_pos (by omega), Int.toNat_natCast, pcp_succ (by decide)]
      exact ih (i + 1) (by omega)
  have h := key 8 0 (by omega)
  rw [pcp_zero] at h
  exact h
theorem c_copy_15_25 {d : Nat} (hd : 1 ≤ d) {M : pM} : xF d 48 [.inr 17, .inr 27] M = rV (pcp M 15 25 10) := by
  obtain ⟨D, rfl, -⟩ := dsucc hd
  rw [T_X_copy_15_25]
  have key : ∀ m i : Nat, i + m = 10 → xE D 48 2 [.inr 17, .inr 27, .inl (i : Int)] [] (pcp M 15 25 i) = rV (pcp M 15 25 10) := by
    intro m
    induction m with
    | zero =>
      intro i hi
      have hi : i = 10 := by omega
      subst hi
      rw [L_X_copy_15_25_2, if_pos (by rw [le32_iff] <;> omega)]
    | succ m ih =>
      intro i hi
      rw [L_X_copy_15_25_2, if_neg (by rw [le32_iff] <;> omega), if_neg (by rw [le32_iff] <;> omega), if_pos (by omega), if_pos (by omega), Int.toNat_natCast, pcp_succ (by decide)]
      exact ih (i + 1) (by omega)
  have h := key 10 0 (by omega)
  rw [pcp_zero] at h
  exact h
theorem c_copy_16_26 {d : Nat} (hd : 1 ≤ d) {M : pM} : xF d 48 [.inr 18, .inr 28] M = rV (pcp M 16 26 10) := by
  obtain ⟨D, rfl, -⟩ := dsucc hd
  rw [T_X_copy_16_26]
  have key : ∀ m i : Nat, i + m = 10 → xE D 48 2 [.inr 18, .inr 28, .inl (i : Int)] [] (pcp M 16 26 i) = rV (pcp M 16 26 10) := by
    intro m
    induction m with
    | zero =>
      intro i hi
      have hi : i = 10 := by omega
      subst hi
      rw [L_X_copy_16_26_2, if_pos (by rw [le32_iff] <;> omega)]
    | succ m ih =>
      intro i hi
      rw [L_X_copy_16_26_2, if_neg (by rw [le32_iff] <;> omega), if_neg (by rw [le32_iff] <;> omega), if_pos (by omega), if_pos (by omega), Int.toNat_natCast, pcp_succ (by decide)]
      exact ih (i + 1) (by omega)
  have h := key 10 0 (by omega)
  rw [pcp_zero] at h
  exact h
theorem c_copy_18_8 {d : Nat} (hd : 1 ≤ d) {M : pM} : xF d 48 [.inr 20, .inr 10] M = rV (pcp M 18 8 6) := by
  obtain ⟨D, rfl, -⟩ := dsucc hd
  rw [T_X_copy_18_8]
  have key : ∀ m i : Nat, i + m = 6 → xE D 48 2 [.inr 20, .inr 10, .inl (i : Int)] [] (pcp M 18 8 i) = rV (pcp M 18 8 6) := by
    intro m
    induction m with
    | zero =>
      intro i hi
      have hi : i = 6 := by omega
      subst hi
      rw [L_X_copy_18_8_2, if_pos (by rw [le32_iff] <;> omega)]
    | succ m ih =>
      intro i hi
      rw [L_X_copy_18_8_2, if_neg (by rw [le32_iff] <;> omega), if_neg (by rw [le32_iff] <;> omega), if_pos (by omega), if_pos (by omega), Int.toNat_natCast, pcp_succ (by decide)]
      exact ih (i + 1) (by omega)
  have h := key 6 0 (by omega)
  rw [pcp_zero] at h
  exact h
theorem c_copy_19_9 {d : Nat} (hd : 1 ≤ d) {M : pM} : xF d 48 [.inr 21, .inr 11] M = rV (pcp M 19 9 36) := by
  obtain ⟨D, rfl, -⟩ := dsucc hd
  rw [T_X_copy_19_9]
  have key : ∀ m i : Nat, i + m = 36 → xE D 48 2 [.inr 21, .inr 11, .inl (i : Int)] [] (pcp M 19 9 i) = rV (pcp M 19 9 36) := by
    intro m
    induction m with
    | zero =>
      intro i hi
      have hi : i = 36 := by omega
      subst hi
      rw [L_X_copy_19_9_2, if_pos (by rw [le32_iff] <;> omega)]
    | succ m ih =>
      intro i hi
      rw [L_X_copy_19_9_2, if_neg (by rw [le32_iff] <;> omega), if_neg (by rw [le32_iff] <;> omega), if_pos (by omega), if_pos (by omega), Int.toNat_natCast, pcp_succ (by decide)]
      exact ih (i + 1) (by omega)
  have h := key 36 0 (by omega)
  rw [pcp_zero] at h
  exact h
theorem c_copy_20_10 {d : Nat} (hd : 1 ≤ d) {M : pM} : xF d 48 [.inr 22, .inr 12] M = rV (pcp M 20 10 10) := by
  obtain ⟨D, rfl, -⟩ := dsucc hd
  rw [T_X_copy_20_10]
  have key : ∀ m i : Nat, i + m = 10 → xE D 48 2 [.inr 22, .inr 12, .inl (i : Int)] [] (pcp M 20 10 i) = rV (pcp M 20 10 10) := by
    intro m
    induction m with
    | zero =>
      intro i hi
      have hi : i = 10 := by omega
      subst hi
      rw [L_X_copy_20_10_2, if_pos (by rw [le32_iff] <;> omega)]
    | succ m ih =>
      intro i hi
      rw [L_X_copy_20_10_2, if_neg (by rw [le32_iff] <;> omega), if_neg (by rw [le32_iff] <;> omega), if_pos (by omega), if_pos (by omega), Int.toNat_natCast, pcp_succ (by decide)]
      exact ih (i + 1) (by omega)
  have h := key 10 0 (by omega)
  rw [pcp_zero] at h
  exact h
theorem c_copy_21_11 {d : Nat} (hd : 1 ≤ d) {M : pM} : xF d 48 [.inr 23, .inr 13] M = rV (pcp M 21 11 10) := by
  obtain ⟨D, rfl, -⟩ := dsucc hd
  rw [T_X_copy_21_11]
  have key : ∀ m i : Nat, i + m = 10 → xE D 48 2 [.inr 23, .inr 13, .inl (i : Int)] [] (pcp M 21 11 i) = rV (pcp M 21 11 10) := by
    intro m
    induction m with
    | zero =>
      intro i hi
      have hi : i = 10 := by omega
      subst hi
      rw [L_X_copy_21_11_2, if_pos (by rw [le32_iff] <;> omega)]
    | succ m ih =>
      intro i hi
      rw [L_X_copy_21_11_2, if_neg (by rw [le32_iff] <;> omega), if_neg (by rw [le32_iff] <;> omega), if_pos (by omega), if_pos (by omega), Int.toNat_natCast, pcp_succ (by decide)]
      exact ih (i + 1) (by omega)
  have h := key 10 0 (by omega)
  rw [pcp_zero] at h
  exact h
theorem c_copy_22_12 {d : Nat} (hd : 1 ≤ d) {M : pM} : xF d 48 [.inr 24, .inr 14] M = rV (pcp M 22 12 10) := by
  obtain ⟨D, rfl, -⟩ := dsucc hd
  rw [T_X_copy_22_12]
  have key : ∀ m i : Nat, i + m = 10 → xE D 48 2 [.inr 24, .inr 14, .inl (i : Int)] [] (pcp M 22 12 i) = rV (pcp M 22 12 10) := by
    intro m
    induction m with
    | zero =>
      intro i hi
      have hi : i = 10 := by omega
      subst hi
      rw [L_X_copy_22_12_2, if_pos (by rw [le32_iff] <;> omega)]
    | succ m ih =>
      intro i hi
      rw [L_X_copy_22_12_2, if_neg (by rw [le32_iff] <;> omega), if_neg (by rw [le32_iff] <;> omega), if_pos (by omega), if_pos (by omega), Int.toNat_natCast, pcp_succ (by decide)]
      exact ih (i + 1) (by omega)
  have h := key 10 0 (by omega)
  rw [pcp_zero] at h
  exact h
theorem c_copy_23_13 {d : Nat} (hd : 1 ≤ d) {M : pM} : xF d 48 [.inr 25, .inr 15] M = rV (pcp M 23 13 10) := by
  obtain ⟨D, rfl, -⟩ := dsucc hd
  rw [T_X_copy_23_13]
  have key : ∀ m i : Nat, i + m = 10 → xE D 48 2 [.inr 25, .inr 15, .inl (i : Int)] [] (pcp M 23 13 i) = rV (pcp M 23 13 10) := by
    intro m
    induction m with
    | zero =>
      intro i hi
      have hi : i = 10 := by omega
      subst hi
      rw [L_X_copy_23_13_2, if_pos (by rw [le32_iff] <;> omega)]
    | succ m ih =>
      intro i hi
      rw [L_X_copy_23_13_2, if_neg (by rw [le32_iff] <;> omega), if_neg (by rw [le32_iff] <;> omega), if_pos (by omega), if_pos (by omega), Int.toNat_natCast, pcp_succ (by decide)]
      exact ih (i + 1) (by omega)
  have h := key 10 0 (by omega)
  rw [pcp_zero] at h
  exact h
theorem c_copy_24_14 {d : Nat} (hd : 1 ≤ d) {M : pM} : xF d 48 [.inr 26, .inr 16] M = rV (pcp M 24 14 8) := by
  obtain ⟨D, rfl, -⟩ := dsucc hd
  rw [T_X_copy_24_14]
  have key : ∀ m i : Nat, i + m = 8 → xE D 48 2 [.inr 26, .inr 16, .inl (i : Int)] [] (pcp M 24 14 i) = rV (pcp M 24 14 8) := by
    intro m
    induction m with
    | zero =>
      intro i hi
      have hi : i = 8 := by omega
      subst hi
      rw [L_X_copy_24_14_2, if_pos (by rw [le32_iff] <;> omega)]
    | succ m ih =>
      intro i hi
      rw [L_X_copy_24_14_2, if_neg (by rw [le32_iff] <;> omega), if_neg (by rw [le32_iff] <;> omega), if_pos (by omega), if_pos (by omega), Int.toNat_natCast, pcp_succ (by decide)]
      exact ih (i + 1) (by omega)
  have h := key 8 0 (by omega)
  rw [pcp_zero] at h
  exact h
theorem c_copy_25_15 {d : Nat} (hd : 1 ≤ d) {M : pM} : xF d 48 [.inr 27, .inr 17] M = rV (pcp M 25 15 10) := by
  obtain ⟨D, rfl, -⟩ := dsucc hd
  rw [T_X_copy_25_15]
  have key : ∀ m i : Nat, i + m = 10 → xE D 48 2 [.inr 27, .inr 17, .inl (i : Int)] [] (pcp M 25 15 i) = rV (pcp M 25 15 10) := by
    intro m
    induction m with
    | zero =>
      intro i hi
      have hi : i = 10 := by omega
      subst hi
      rw [L_X_copy_25_15_2, if_pos (by rw [le32_iff] <;> omega)]
    | succ m ih =>
      intro i hi
      rw [L_X_copy_25_15_2, if_neg (by rw [le32_iff] <;> omega), if_neg (by rw [le32_iff] <;> omega), if_pos (by omega), if_pos (by omega), Int.toNat_natCast, pcp_succ (by decide)]
      exact ih (i + 1) (by omega)
  have h := key 10 0 (by omega)
  rw [pcp_zero] at h
  exact h
theorem c_copy_26_16 {d : Nat} (hd : 1 ≤ d) {M : pM} : xF d 48 [.inr 28, .inr 18] M = rV (pcp M 26 16 10) := by
  obtain ⟨D, rfl, -⟩ := dsucc hd
  rw [T_X_copy_26_16]
  have key : ∀ m i : Nat, i + m = 10 → xE D 48 2 [.inr 28, .inr 18, .inl (i : Int)] [] (pcp M 26 16 i) = rV (pcp M 26 16 10) := by
    intro m
    induction m with
    | zero =>
      intro i hi
      have hi : i = 10 := by omega
      subst hi
      rw [L_X_copy_26_16_2, if_pos (by rw [le32_iff] <;> omega)]
    | succ m ih =>
      intro i hi
      rw [L_X_copy_26_16_2, if_neg (by rw [le32_iff] <;> omega), if_neg (by rw [le32_iff] <;> omega), if_pos (by omega), if_pos (by omega), Int.toNat_natCast, pcp_succ (by decide)]
      exact ih (i + 1) (by omega)
  have h := key 10 0 (by omega)
  rw [pcp_zero] at h
  exact h
end
section
/-! loops of the usual kinds -/
theorem jor_shl {a k : Nat} (ha : a < 2 ^ k) (hk : k < 30) : jor (a : Int) (jshl 1 (k : Int)) = ((a ||| 2 ^ k : Nat) : Int) := by
  have h1 : 2 ^ k < 2147483648 := Nat.lt_of_lt_of_le (Nat.pow_lt_pow_right (by decide) hk) (by decide)
  rw [jshl_one k (by omega), jor_nat (Nat.lt_trans ha h1) h1]
theorem or_pow_lt {a k : Nat} (ha : a < 2 ^ k) : a ||| 2 ^ k < 2 ^ (k + 1) := Nat.or_lt_two_pow (Nat.lt_trans ha (Nat.pow_lt_pow_right (by decide) (Nat.lt_succ_self k))) (Nat.pow_lt_pow_right (by decide) (Nat.lt_succ_self k))
theorem pow_le_of {k n : Nat} (h : k ≤ n) : 2 ^ k ≤ 2 ^ n := Nat.pow_le_pow_right (by decide) h
/-- bits gathered: F bits k -/
theorem bits_loop (F : Int → Int → Option pR) (n : Nat) (c : Nat → Bool) (hs : ∀ k b : Nat, k < n → b < 2 ^ k → F (b : Int) (k : Int) = F ((if c k then b ||| 2 ^ k else b : Nat) : Int) ((k : Int) + 1)) : F 0 0 = F (bitsOf c n) n := by
  have key : ∀ k : Nat, k ≤ n → F 0 0 = F (bitsOf c k) k := by
    intro k
    induction k with
    | zero => intro _; rfl
    | succ k ih =>
      intro hk
      rw [ih (by omega), hs k _ (by omega) (bitsOf_lt c k)]
      rfl
  exact key n (Nat.le_refl n)
/-- sums -/
def sumTo (f : Nat → Int) : Nat → Int
  | 0 => 0
  | n + 1 => sumTo f n + f n
theorem sumTo_range {f : Nat → Int} {lo hi : Int} : ∀ {n : Nat}, (∀ i, i < n → lo ≤ f i ∧ f i ≤ hi) → (n : Int) * lo ≤ sumTo f n ∧ sumTo f n ≤ (n : Int) * hi
  | 0, _ => by simp [sumTo]
  | n + 1, h => by
    have h1 := sumTo_range fun i hi => h i (Nat.lt_succ_of_lt hi)
    have h2 := h n (Nat.lt_succ_self n)
    unfold sumTo
    rw [Int.natCast_succ, Int.add_mul, Int.add_mul]
    omega
theorem sum_loop (F : Int → Int → Option pR) (n : Nat) (f : Nat → Int) (hs : ∀ (k : Nat) (s : Int), k < n → F s (k : Int) = F (s + f k) ((k : Int) + 1)) : F 0 0 = F (sumTo f n) n := by
  have key : ∀ k : Nat, k ≤ n → F 0 0 = F (sumTo f k) k := by
    intro k
    induction k with
    | zero => intro _; rfl
    | succ k ih =>
      intro hk
      rw [ih (by omega), hs k _ (by omega)]
      rfl
  exact key n (Nat.le_refl n)
/-- the first place with c, or -1 -/
def firstN (c : Nat → Bool) : Nat → Nat → Int
  | _, 0 => -1
  | k, m + 1 => if c k then (k : Int) else firstN c (k + 1) m
theorem firstN_congr {c c' : Nat → Bool} : ∀ {m k : Nat}, (∀ i, k ≤ i → i < k + m → c i = c' i) → firstN c k m = firstN c' k m
  | 0, _, _ => rfl
  | m + 1, k, h => by
    unfold firstN
    rw [h k (Nat.le_refl k) (by omega), firstN_congr fun i h1 h2 => h i (by omega) (by omega)]
theorem firstN_spec (c : Nat → Bool) : ∀ (m k : Nat), (firstN c k m = -1 ∧ ∀ i, k ≤ i → i < k + m → c i = false) ∨ ∃ j : Nat, firstN c k m = (j : Int) ∧ k ≤ j ∧ j < k + m ∧ c j = true ∧ ∀ i, k ≤ i → i < j → c i = false
  | 0, k => Or.inl ⟨rfl, fun i h1 h2 => by omega⟩
  | m + 1, k => by
    unfold firstN
    cases hc : c k with
    | true => exact Or.inr ⟨k, rfl, Nat.le_refl k, by omega, hc, fun i h1 h2 => by omega⟩
    | false =>
      rw [if_neg (by simp)]
      rcases firstN_spec c m (k + 1) with ⟨h1, h2⟩ | ⟨j, h1, h2, h3, h4, h5⟩
      · refine Or.inl ⟨h1, fun i h3 h4 => ?_⟩
        rcases Nat.lt_or_ge k i with q | q
        · exact h2 i q (by omega)
        · have : i = k := by omega
          rw [this]; exact hc
      · refine Or.inr ⟨j, h1, by omega, by omega, h4, fun i h6 h7 => ?_⟩
        rcases Nat.lt_or_ge k i with q | q
        · exact h5 i q h7
        · have : i = k := by omega
          rw [this]; exact hc
theorem firstN_range (c : Nat → Bool) (m : Nat) : -1 ≤ firstN c 0 m ∧ firstN c 0 m < m ∨ firstN c 0 m = -1 := by
  rcases firstN_spec c m 0 with ⟨h1, -⟩ | ⟨j, h1, -, h3, -⟩
  · exact Or.inr h1
  · exact Or.inl (by omega)
/-- all up to n -/
def allTo (c : Nat → Bool) : Nat → Bool
  | 0 => true
  | n + 1 => allTo c n && c n
theorem allTo_iff {c : Nat → Bool} : ∀ {n : Nat}, allTo c n = true ↔ ∀ i, i < n → c i = true
  | 0 => ⟨fun _ i h => by omega, fun _ => rfl⟩
  | n + 1 => by
    unfold allTo
    rw [Bool.and_eq_true, allTo_iff]
    constructor
    · intro ⟨h1, h2⟩ i hi
      rcases Nat.lt_or_ge i n with q | q
      · exact h1 i q
      · have : i = n := by omega
        rw [this]; exact h2
    · intro h
      exact ⟨fun i hi => h i (by omega), h n (Nat.lt_succ_self n)⟩
theorem c_has {d : Nat} (hd : 1 ≤ d) {a b : Nat} {M : pM} (ha : a < 2147483648) (hb : b < 32) : xF d 49 [.inl (a : Int), .inl (b : Int)] M = rI (if a.testBit b then 1 else 0) M := by
  obtain ⟨D, rfl, -⟩ := dsucc hd
  rw [T_X_has, jshr_nat ha hb, jand_one (Nat.lt_of_le_of_lt (Nat.shiftRight_le a b) ha)]
  have e : (a >>> b) % 2 = if a.testBit b then 1 else 0 := by
    rw [Nat.testBit_eq_decide_div_mod_eq, Nat.shiftRight_eq_div_pow]
    have := Nat.mod_lt (a / 2 ^ b) (show 0 < 2 by decide)
    by_cases q : a / 2 ^ b % 2 = 1
    · simp [q]
    · simp [q]; omega
  rw [e]
  cases a.testBit b
  · rw [if_pos (by decide)]; rfl
  · rw [if_neg (by decide)]; rfl
theorem m_has {d : Nat} (hd : 1 ≤ d) {a b : Nat} {M : pM} (ha : a < 2147483648) (hb : b < 32) : xF d 170 [.inl (a : Int), .inl (b : Int)] M = rI (if a.testBit b then 1 else 0) M := by
  obtain ⟨D, rfl, -⟩ := dsucc hd
  rw [T_M_has, jshr_nat ha hb, jand_one (Nat.lt_of_le_of_lt (Nat.shiftRight_le a b) ha)]
  have e : (a >>> b) % 2 = if a.testBit b then 1 else 0 := by
    rw [Nat.testBit_eq_decide_div_mod_eq, Nat.shiftRight_eq_div_pow]
    have := Nat.mod_lt (a / 2 ^ b) (show 0 < 2 by decide)
    by_cases q : a / 2 ^ b % 2 = 1
    · simp [q]
    · simp [q]; omega
  rw [e]
  cases a.testBit b
  · rw [if_pos (by decide)]; rfl
  · rw [if_neg (by decide)]; rfl
/-- a condition asked as 0 or 1 -/
theorem ite01 {b : Bool} {α : Type} (x y : α) : (if eq32 (if b then 1 else 0) 0 then x else y) = if b then y else x := by
  cases b
  · rw [if_pos (by decide)]; rfl
  · rw [if_neg (by decide)]; rfl
theorem ite01n {b : Bool} {α : Type} (x y : α) : (if ¬ eq32 (if b then 1 else 0) 0 then x else y) = if b then x else y := by
  cases b
  · rw [if_neg (by decide)]; rfl
  · rw [if_pos (by decide)]; rfl
theorem ite01p {p : Prop} [Decidable p] {α : Type} (x y : α) : (if eq32 (if p then 1 else 0) 0 then x else y) = if p then y else x := by
  by_cases h : p
  · rw [if_pos h, if_neg (by decide), if_pos h]
  · rw [if_neg h, if_pos (by decide), if_neg h]
theorem ite01pn {p : Prop} [Decidable p] {α : Type} (x y : α) : (if ¬ eq32 (if p then 1 else 0) 0 then x else y) = if p then x else y := by
  by_cases h : p
  · rw [if_pos h, if_pos (by decide), if_pos h]
  · rw [if_neg h, if_neg (by decide), if_neg h]
end
section
/-! bit counts, and what is asked of the clumps (by program) -/
def bcE (a : Int) : Int := (jand (((jand (((jand (a - (jand (jushr a 1) 1431655765)) 858993459) + (jand (jushr (a - (jand (jushr a 1) 1431655765)) 2) 858993459)) + (jushr ((jand (a - (jand (jushr a 1) 1431655765)) 858993459) + (jand (jushr (a - (jand (jushr a 1) 1431655765)) 2) 858993459)) 4)) 252645135) + (jushr (jand (((jand (a - (jand (jushr a 1) 1431655765)) 858993459) + (jand (jushr (a - (jand (jushr a 1) 1431655765)) 2) 858993459)) + (jushr ((jand (a - (jand (jushr a 1) 1431655765)) 858993459) + (jand (jushr (a - (jand (jushr a 1) 1431655765)) 2) 858993459)) 4)) 252645135) 8)) + (jushr ((jand (((jand (a - (jand (jushr a 1) 1431655765)) 858993459) + (jand (jushr (a - (jand (jushr a 1) 1431655765)) 2) 858993459)) + (jushr ((jand (a - (jand (jushr a 1) 1431655765)) 858993459) + (jand (jushr (a - (jand (jushr a 1) 1431655765)) 2) 858993459)) 4)) 252645135) + (jushr (jand (((jand (a - (jand (jushr a 1) 1431655765)) 858993459) + (jand (jushr (a - (jand (jushr a 1) 1431655765)) 2) 858993459)) + (jushr ((jand (a - (jand (jushr a 1) 1431655765)) 858993459) + (jand (jushr (a - (jand (jushr a 1) 1431655765)) 2) 858993459)) 4)) 252645135) 8)) 16)) 63)
def ntE (a : Int) : Int := if lt32 0 (jand (jxor a (-1)) (a - 1)) then
 (if le32 (jand (jxor a (-1)) (a - 1)) 65536 then
 (if le32 (jand (jxor a (-1)) (a - 1)) 256 then
 (if le32 (jand (jxor a (-1)) (a - 1)) 16 then
 (if le32 (jand (jxor a (-1)) (a - 1)) 4 then
 (1 + (jushr (jand (jxor a (-1)) (a - 1)) 1))
 else
 ((1 + 2) + (jushr (jushr (jand (jxor a (-1)) (a - 1)) 2) 1)))
 else
 (if le32 (jushr (jand (jxor a (-1)) (a - 1)) 4) 4 then
 ((1 + 4) + (jushr (jushr (jand (jxor a (-1)) (a - 1)) 4) 1))
 else
 (((1 + 4) + 2) + (jushr (jushr (jushr (jand (jxor a (-1)) (a - 1)) 4) 2) 1))))
 else
 (if le32 (jushr (jand (jxor a (-1)) (a - 1)) 8) 16 then
 (if le32 (jushr (jand (jxor a (-1)) (a - 1)) 8) 4 then
 ((1 + 8) + (jushr (jushr (jand (jxor a (-1)) (a - 1)) 8) 1))
 else
 (((1 + 8) + 2) + (jushr (jushr (jushr (jand (jxor a (-1)) (a - 1)) 8) 2) 1)))
 else
 (if le32 (jushr (jushr (jand (jxor a (-1)) (a - 1)) 8) 4) 4 then
 (((1 + 8) + 4) + (jushr (jushr (jushr (jand (jxor a (-1)) (a - 1)) 8) 4) 1))
 else
 ((((1 + 8) + 4) + 2) + (jushr (jushr (jushr (jushr (jand (jxor a (-1)) (a - 1)) 8) 4) 2) 1)))))
 else
 (if le32 (jushr (jand (jxor a (-1)) (a - 1)) 16) 256 then
 (if le32 (jushr (jand (jxor a (-1)) (a - 1)) 16) 16 then
 (if le32 (jushr (jand (jxor a (-1)) (a - 1)) 16) 4 then
 ((1 + 16) + (jushr (jushr (jand (jxor a (-1)) (a - 1)) 16) 1))
 else
 (((1 + 16) + 2) + (jushr (jushr (jushr (jand (jxor a (-1)) (a - 1)) 16) 2) 1)))
 else
 (if le32 (jushr (jushr (jand (jxor a (-1)) (a - 1)) 16) 4) 4 then
 (((1 + 16) + 4) + (jushr (jushr (jushr (jand (jxor a (-1)) (a - 1)) 16) 4) 1))
 else
 ((((1 + 16) + 4) + 2) + (jushr (jushr (jushr (jushr (jand (jxor a (-1)) (a - 1)) 16) 4) 2) 1))))
 else
 (if le32 (jushr (jushr (jand (jxor a (-1)) (a - 1)) 16) 8) 16 then
 (if le32 (jushr (jushr (jand (jxor a (-1)) (a - 1)) 16) 8) 4 then
 (((1 + 16) + 8) + (jushr (jushr (jushr (jand (jxor a (-1)) (a - 1)) 16) 8) 1))
 else
 ((((1 + 16) + 8) + 2) + (jushr (jushr (jushr (jushr (jand (jxor a (-1)) (a - 1)) 16) 8) 2) 1)))
 else
 (if le32 (jushr (jushr (jushr (jand (jxor a (-1)) (a - 1)) 16) 8) 4) 4 then
 ((((1 + 16) + 8) + 4) + (jushr (jushr (jushr (jushr (jand (jxor a (-1)) (a - 1)) 16) 8) 4) 1))
 else
 (((((1 + 16) + 8) + 4) + 2) + (jushr (jushr (jushr (jushr (jushr (jand (jxor a (-1)) (a - 1)) 16) 8) 4) 2) 1))))))
 else
 (jand (jand (jxor a (-1)) (a - 1)) 32)
theorem sI_ite {p : Prop} [Decidable p] {x y : Int} {M : pM} : (if p then (some (some (.inl x), M) : Option pR) else some (some (.inl y), M)) = some (some (.inl (if p then x else y)), M) := by
  by_cases h : p
  · rw [if_pos h, if_pos h]
  · rw [if_neg h, if_neg h]
def cntTo (c : Nat → Bool) : Nat → Nat
  | 0 => 0
  | n + 1 => if c n then cntTo c n + 1 else cntTo c n
theorem cntTo_le {c : Nat → Bool} : ∀ n, cntTo c n ≤ n
  | 0 => Nat.le_refl 0
  | n + 1 => by
    have := cntTo_le (c := c) n
    unfold cntTo
    split <;> omega
/-- how many of ten bits; the lowest -/
def popc (a : Nat) : Nat := cntTo a.testBit 10
def ntz (a : Nat) : Int := if a = 0 then 32 else firstN a.testBit 0 10
set_option maxRecDepth 100000 in
theorem bc_dec : ((List.range 1024).all fun a => bcE (a : Int) == (popc a : Int)) = true := by decide +kernel
set_option maxRecDepth 100000 in
theorem nt_dec : ((List.range 1024).all fun a => ntE (a : Int) == ntz a) = true := by decide +kernel
theorem j_bitCount {d : Nat} (hd : 1 ≤ d) {a : Nat} (ha : a < 1024) {M : pM} : xF d 270 [.inl (a : Int)] M = rI (popc a : Nat) M := by
  obtain ⟨D, rfl, -⟩ := dsucc hd
  have h := beq_iff_eq.mp (List.all_eq_true.mp bc_dec a (List.mem_range.mpr ha))
  rw [T_I_bitCount]
  have e : xF (D + 1) 270 [.inl (a : Int)] M = rI (bcE (a : Int)) M := T_I_bitCount D (a : Int) M
  rw [h] at e
  rw [← e, T_I_bitCount]
theorem j_ntz {d : Nat} (hd : 1 ≤ d) {a : Nat} (ha : a < 1024) {M : pM} : xF d 271 [.inl (a : Int)] M = rI (ntz a) M := by
  obtain ⟨D, rfl, -⟩ := dsucc hd
  have h := beq_iff_eq.mp (List.all_eq_true.mp nt_dec a (List.mem_range.mpr ha))
  rw [T_I_numberOfTrailingZeros]
  simp only [sI_ite]
  unfold ntE at h
  rw [h]
theorem popc_le (a : Nat) : popc a ≤ 10 := cntTo_le 10
end
section
/-! contracts by hand: what is known of a memory by its ranges -/
theorem gR0 {lo hi z : Int} {a : Nat} {b : Int} {c : Nat} (h : gR (0, lo, hi, a, b, c) z) : lo ≤ z ∧ z ≤ hi := by
  rcases h with h | h | h
  · exact h.2
  · exact absurd (show (0 : Nat) = 1 from h) (by decide)
  · exact absurd (show (0 : Nat) = 2 from h.1) (by decide)
theorem gm_i {M : pM} (h : gM gAll M) (o k : Nat) {lo hi : Int} (e : gAll o k = (0, lo, hi, 0, 0, 0)) (hk : k < pL o) : lo ≤ M o k ∧ M o k ≤ hi := gR0 (by rw [← e]; exact h o k hk)
theorem gAll_row {o : Nat} {v : aV} (e : gT o = [v]) (hK : Nat.ble 100 (pK o) = true) {k : Nat} (hk : k < 100000) : gAll o k = v := by
  have n1 : Nat.beq k 100000 = false := by
    cases q : Nat.beq k 100000
    · rfl
    · have := Nat.eq_of_beq_eq_true q; omega
  have n2 : Nat.beq k 100001 = false := by
    cases q : Nat.beq k 100001
    · rfl
    · have := Nat.eq_of_beq_eq_true q; omega
  unfold gAll
  rw [hK, n1, n2]
  show (gT o).getD (k % (gT o).length) eT = v
  rw [e]
  show [v].getD (k % 1) eT = v
  rw [Nat.mod_one]; rfl
theorem gm_r {M : pM} (h : gM gAll M) {o : Nat} {lo hi : Int} (e : gT o = [(0, lo, hi, 0, 0, 0)]) (hK : Nat.ble 100 (pK o) = true) {k : Nat} (hk : k < pL o) : lo ≤ M o k ∧ M o k ≤ hi := gR0 (by rw [← gAll_row e hK (Nat.lt_of_lt_of_le hk (pL_le _))]; exact h o k hk)
theorem natI {z : Int} (h : 0 ≤ z) : ∃ n : Nat, z = (n : Int) := ⟨z.toNat, (Int.toNat_of_nonneg h).symm⟩
theorem gMs_set {M : pM} (h : gM gAll M) {o i : Nat} {v : Int} (hv : gR (gAll o i) v) : gM gAll (pset M o i v) := by
  intro o' k hk
  unfold pset
  split
  · rename_i e; rw [e.1, e.2]; exact hv
  · exact h o' k hk
theorem gM_f {M : pM} (h : gM gAll M) {o i : Nat} {v lo hi : Int} (e : gAll o i = (0, lo, hi, 0, 0, 0)) (h1 : lo ≤ v) (h2 : v ≤ hi) : gM gAll (pset M o i v) := gMs_set h (by rw [e]; exact Or.inl ⟨rfl, h1, h2⟩)
theorem gM_r {M : pM} (h : gM gAll M) {o i : Nat} {v lo hi : Int} (e : gT o = [(0, lo, hi, 0, 0, 0)]) (hK : Nat.ble 100 (pK o) = true) (h1 : lo ≤ v) (h2 : v ≤ hi) : gM gAll (pset M o i v) := by
  intro o' k hk
  unfold pset
  split
  · rename_i q
    obtain ⟨rfl, rfl⟩ := q
    rw [gAll_row e hK (Nat.lt_of_lt_of_le hk (pL_le _))]
    exact Or.inl ⟨rfl, h1, h2⟩
  · exact h o' k hk
theorem gM_r1 {M : pM} (h : gM gAll M) {o i : Nat} {v : Int} (e : gT o = [(1, 0, 0, 0, 0, 0)]) (hK : Nat.ble 100 (pK o) = true) : gM gAll (pset M o i v) := by
  intro o' k hk
  unfold pset
  split
  · rename_i q
    obtain ⟨rfl, rfl⟩ := q
    rw [gAll_row e hK (Nat.lt_of_lt_of_le hk (pL_le _))]
    exact Or.inr (Or.inl rfl)
  · exact h o' k hk
theorem Fr_set {w : List (Nat × Nat)} {M M' : pM} (h : Fr w M M') {o i : Nat} {v : Int} (hw : wOK w o i = true) : Fr w M (pset M' o i v) := by
  intro o' k q
  unfold pset
  split
  · rename_i e; rw [e.1, e.2, hw] at q; cases q
  · exact h o' k q
theorem wOK_r {w : List (Nat × Nat)} {o : Nat} (h : (o, 999) ∈ w) (i : Nat) : wOK w o i = true := List.any_eq_true.mpr ⟨(o, 999), h, by
  show (Nat.beq o o && (Nat.beq 999 i || Nat.beq 999 999)) = true
  rw [Nat.beq_refl]
  cases Nat.beq 999 i <;> rfl⟩
theorem Fr_mono {w w' : List (Nat × Nat)} {M M' : pM} (h : Fr w M M') (hw : ∀ q, q ∈ w → q ∈ w') : Fr w' M M' := fun o k q => h o k (by
  cases e : wOK w o k with
  | false => rfl
  | true =>
    obtain ⟨x, hx, hy⟩ := List.any_eq_true.mp e
    have : wOK w' o k = true := List.any_eq_true.mpr ⟨x, hw x hx, hy⟩
    rw [this] at q; cases q)
/-! the things that hang together: the reference's findClumps -/
/-- one round through k sets -/
def fcP (sv : Nat → Nat) (ns g b : Nat) : Nat → Nat
  | 0 => b
  | k + 1 => if ns.testBit k = true ∨ sv k &&& fcP sv ns g b k = 0 then fcP sv ns g b k else fcP sv ns g b k ||| nan (sv k) g
theorem fcP_ge {sv : Nat → Nat} {ns g b : Nat} : ∀ k, b ≤ fcP sv ns g b k
  | 0 => Nat.le_refl b
  | k + 1 => by
    unfold fcP
    split
    · exact fcP_ge k
    · exact Nat.le_trans (fcP_ge k) Nat.left_le_or
theorem fcP_lt {sv : Nat → Nat} {ns g b S : Nat} (hs : ∀ k, k < S → sv k < 1024) (hb : b < 1024) : ∀ k, k ≤ S → fcP sv ns g b k < 1024
  | 0, _ => hb
  | k + 1, h => by
    unfold fcP
    split
    · exact fcP_lt hs hb k (by omega)
    · exact Nat.or_lt_two_pow (n := 10) (fcP_lt hs hb k (by omega)) (Nat.lt_of_le_of_lt (nan_le _ _) (hs k (by omega)))
theorem fcP_bit {sv : Nat → Nat} {ns g b i : Nat} (h : b.testBit i = true) : ∀ k, (fcP sv ns g b k).testBit i = true
  | 0 => h
  | k + 1 => by
    unfold fcP
    split
    · exact fcP_bit h k
    · rw [Nat.testBit_or, fcP_bit h k]; rfl
def fcI (sv : Nat → Nat) (ns g S : Nat) : Nat → Nat → Nat
  | 0, b => b
  | n + 1, b => fcI sv ns g S n (fcP sv ns g b S)
def fcX (sv : Nat → Nat) (ns g S b : Nat) : Nat := fcI sv ns g S 1024 b
section FC
variable {sv : Nat → Nat} {ns g S : Nat}
theorem fcI_succ (n b : Nat) : fcI sv ns g S (n + 1) b = fcI sv ns g S n (fcP sv ns g b S) := rfl
theorem fcI_one (b : Nat) : fcI sv ns g S 1 b = fcP sv ns g b S := rfl
theorem fcI_fix {b : Nat} (h : fcP sv ns g b S = b) : ∀ n, fcI sv ns g S n b = b
  | 0 => rfl
  | n + 1 => by
    show fcI sv ns g S n (fcP sv ns g b S) = b
    rw [h]; exact fcI_fix h n
theorem fcI_add : ∀ (n m b : Nat), fcI sv ns g S (n + m) b = fcI sv ns g S m (fcI sv ns g S n b)
  | 0, m, b => by rw [Nat.zero_add]; rfl
  | n + 1, m, b => by
    rw [show n + 1 + m = n + m + 1 by omega]
    show fcI sv ns g S (n + m) (fcP sv ns g b S) = _
    rw [fcI_add n m]; rfl
theorem fcI_lt (hs : ∀ k, k < S → sv k < 1024) : ∀ (n b : Nat), b < 1024 → fcI sv ns g S n b < 1024
  | 0, b, h => h
  | n + 1, b, h => fcI_lt hs n _ (fcP_lt hs h S (Nat.le_refl S))
theorem fcI_bit {i : Nat} : ∀ (n b : Nat), b.testBit i = true → (fcI sv ns g S n b).testBit i = true
  | 0, b, h => h
  | n + 1, b, h => fcI_bit n _ (fcP_bit h S)
theorem fcI_stop (hs : ∀ k, k < S → sv k < 1024) : ∀ (n b : Nat), b < 1024 → 1024 ≤ n + b → fcP sv ns g (fcI sv ns g S n b) S = fcI sv ns g S n b
  | 0, b, h, h2 => by omega
  | n + 1, b, h, h2 => by
    by_cases e : fcP sv ns g b S = b
    · rw [fcI_fix e]; exact e
    · have := fcP_ge (sv := sv) (ns := ns) (g := g) (b := b) S
      exact fcI_stop hs n _ (fcP_lt hs h S (Nat.le_refl S)) (by omega)
theorem fcX_P (hs : ∀ k, k < S → sv k < 1024) {b : Nat} (hb : b < 1024) : fcX sv ns g S (fcP sv ns g b S) = fcX sv ns g S b := by
  by_cases e : fcP sv ns g b S = b
  · rw [e]
  · have h1 := fcP_ge (sv := sv) (ns := ns) (g := g) (b := b) S
    have h2 := fcP_lt hs hb S (Nat.le_refl S) (ns := ns) (g := g)
    have e1 : fcX sv ns g S (fcP sv ns g b S) = fcI sv ns g S 1 (fcI sv ns g S 1023 (fcP sv ns g b S)) := fcI_add 1023 1 (fcP sv ns g b S)
    have e2 : fcX sv ns g S b = fcI sv ns g S 1023 (fcP sv ns g b S) := fcI_succ 1023 b
    rw [e1, e2, fcI_one]
    exact fcI_stop hs 1023 _ h2 (by omega)
theorem fcX_lt (hs : ∀ k, k < S → sv k < 1024) {b : Nat} (hb : b < 1024) : fcX sv ns g S b < 1024 := fcI_lt hs _ _ hb
theorem fcX_bit {b i : Nat} (h : b.testBit i = true) : (fcX sv ns g S b).testBit i = true := fcI_bit _ _ h
/-- clumps so far, things done, after t things -/
def fcA (sv : Nat → Nat) (ns g S : Nat) : Nat → Nat × Nat
  | 0 => (0, g)
  | t + 1 => if (fcA sv ns g S t).2.testBit t = true then fcA sv ns g S t else ((fcA sv ns g S t).1 + 1, (fcA sv ns g S t).2 ||| fcX sv ns g S (2 ^ t))
/-- the clump of a thing, the things of a clump, after t things -/
def fcO (sv : Nat → Nat) (ns g S : Nat) (f : Nat → Int) : Nat → Nat → Int
  | 0, o => f o
  | t + 1, o => if (fcA sv ns g S t).2.testBit t = false ∧ (fcX sv ns g S (2 ^ t)).testBit o = true then ((fcA sv ns g S t).1 : Int) else fcO sv ns g S f t o
def fcM (sv : Nat → Nat) (ns g S : Nat) (f : Nat → Int) : Nat → Nat → Int
  | 0, i => f i
  | t + 1, i => if (fcA sv ns g S t).2.testBit t = false ∧ i = (fcA sv ns g S t).1 then (fcX sv ns g S (2 ^ t) : Int) else fcM sv ns g S f t i
theorem fcA_s (t : Nat) : fcA sv ns g S (t + 1) = if (fcA sv ns g S t).2.testBit t = true then fcA sv ns g S t else ((fcA sv ns g S t).1 + 1, (fcA sv ns g S t).2 ||| fcX sv ns g S (2 ^ t)) := rfl
theorem fcO_s (f : Nat → Int) (t o : Nat) : fcO sv ns g S f (t + 1) o = if (fcA sv ns g S t).2.testBit t = false ∧ (fcX sv ns g S (2 ^ t)).testBit o = true then ((fcA sv ns g S t).1 : Int) else fcO sv ns g S f t o := rfl
theorem fcM_s (f : Nat → Int) (t i : Nat) : fcM sv ns g S f (t + 1) i = if (fcA sv ns g S t).2.testBit t = false ∧ i = (fcA sv ns g S t).1 then (fcX sv ns g S (2 ^ t) : Int) else fcM sv ns g S f t i := rfl
theorem fcA_le : ∀ t, (fcA sv ns g S t).1 ≤ t
  | 0 => Nat.le_refl 0
  | t + 1 => by
    rw [fcA_s]
    split
    · exact Nat.le_succ_of_le (fcA_le t)
    · exact Nat.succ_le_succ (fcA_le t)
theorem fcA_lt (hs : ∀ k, k < S → sv k < 1024) (hg : g < 1024) : ∀ t, t ≤ 10 → (fcA sv ns g S t).2 < 1024
  | 0, _ => hg
  | t + 1, h => by
    rw [fcA_s]
    split
    · exact fcA_lt hs hg t (by omega)
    · exact Nat.or_lt_two_pow (n := 10) (fcA_lt hs hg t (by omega)) (fcX_lt hs (show 2 ^ t < 2 ^ 10 from Nat.pow_lt_pow_right (by decide) (by omega)))
/-- a thing that is done, and not gone, is of a clump that there is -/
theorem fcO_ok {f : Nat → Int} : ∀ t o, (fcA sv ns g S t).2.testBit o = true → g.testBit o = false → 0 ≤ fcO sv ns g S f t o ∧ fcO sv ns g S f t o < ((fcA sv ns g S t).1 : Int)
  | 0, o, h1, h2 => by
    have h3 : g.testBit o = true := h1
    rw [h3] at h2; cases h2
  | t + 1, o, h1, h2 => by
    rw [fcO_s]
    rw [fcA_s] at h1 ⊢
    by_cases q : (fcA sv ns g S t).2.testBit t = true
    · rw [if_pos q] at h1 ⊢
      rw [if_neg (fun z => by rw [z.1] at q; cases q)]
      exact fcO_ok t o h1 h2
    · rw [if_neg q] at h1 ⊢
      have q2 : (fcA sv ns g S t).2.testBit t = false := by simpa using q
      by_cases r : (fcX sv ns g S (2 ^ t)).testBit o = true
      · rw [if_pos ⟨q2, r⟩]
        exact ⟨by omega, by show ((fcA sv ns g S t).1 : Int) < (((fcA sv ns g S t).1 + 1 : Nat) : Int); omega⟩
      · rw [if_neg (fun z => r z.2)]
        have h3 : ((fcA sv ns g S t).2 ||| fcX sv ns g S (2 ^ t)).testBit o = true := h1
        rw [Nat.testBit_or, Bool.or_eq_true] at h3
        rcases h3 with h3 | h3
        · have := fcO_ok (f := f) t o h3 h2
          exact ⟨this.1, by show _ < (((fcA sv ns g S t).1 + 1 : Nat) : Int); omega⟩
        · exact absurd h3 r
theorem fcA_done : ∀ t o, o < t → (fcA sv ns g S t).2.testBit o = true
  | 0, o, h => absurd h (Nat.not_lt_zero o)
  | t + 1, o, h => by
    rw [fcA_s]
    by_cases q : (fcA sv ns g S t).2.testBit t = true
    · rw [if_pos q]
      rcases Nat.lt_or_ge o t with r | r
      · exact fcA_done t o r
      · rw [show o = t by omega]; exact q
    · rw [if_neg q]
      show ((fcA sv ns g S t).2 ||| fcX sv ns g S (2 ^ t)).testBit o = true
      rw [Nat.testBit_or]
      rcases Nat.lt_or_ge o t with r | r
      · rw [fcA_done t o r]; rfl
      · rw [show o = t by omega, fcX_bit (by rw [Nat.testBit_two_pow_self])]
        cases (fcA sv ns g S t).2.testBit t <;> rfl
/-- the things of a clump that there is are not none -/
theorem fcM_pos {f : Nat → Int} : ∀ t i, i < (fcA sv ns g S t).1 → ∃ b j : Nat, fcM sv ns g S f t i = (b : Int) ∧ j < t ∧ b.testBit j = true ∧ b = fcX sv ns g S (2 ^ j)
  | 0, i, h => absurd h (Nat.not_lt_zero i)
  | t + 1, i, h => by
    rw [fcM_s]
    rw [fcA_s] at h
    by_cases q : (fcA sv ns g S t).2.testBit t = true
    · rw [if_pos q] at h
      rw [if_neg (fun z => by rw [z.1] at q; cases q)]
      obtain ⟨b, j, h1, h2, h3, h4⟩ := fcM_pos (f := f) t i h
      exact ⟨b, j, h1, by omega, h3, h4⟩
    · rw [if_neg q] at h
      have h : i < (fcA sv ns g S t).1 + 1 := h
      have q2 : (fcA sv ns g S t).2.testBit t = false := by simpa using q
      by_cases r : i = (fcA sv ns g S t).1
      · rw [if_pos ⟨q2, r⟩]
        exact ⟨_, t, rfl, by omega, fcX_bit (by rw [Nat.testBit_two_pow_self]), rfl⟩
      · rw [if_neg (fun z => r z.2)]
        obtain ⟨b, j, h1, h2, h3, h4⟩ := fcM_pos (f := f) t i (by omega)
        exact ⟨b, j, h1, by omega, h3, h4⟩
end FC
end
section
/-! the reference's findClumps: its machine -/
def FCw : List (Nat × Nat) := [(60, 30), (72, 999), (73, 999)]
def FCx (M : pM) (S T : Nat) (sv : Nat → Nat) : Prop := M 60 8 = (S : Int) ∧ S ≤ 8 ∧ M 60 3 = (T : Int) ∧ T ≤ 10 ∧ (∀ k, k < S → M 67 k = (sv k : Int)) ∧ ∀ k, k < S → sv k < 1024
theorem fcx_of {M : pM} (h : gM gAll M) : FCx M (M 60 8).toNat (M 60 3).toNat (fun k => (M 67 k).toNat) := by
  have h1 := gm_i h 60 8 (lo := 0) (hi := 8) (by decide +kernel) (by decide +kernel)
  have h2 := gm_i h 60 3 (lo := 0) (hi := 10) (by decide +kernel) (by decide +kernel)
  have h3 : ∀ k, k < (M 60 8).toNat → 0 ≤ M 67 k ∧ M 67 k ≤ 1023 := fun k hk => gm_r h (by decide +kernel) (by decide +kernel) (Nat.lt_of_lt_of_le hk (show (M 60 8).toNat ≤ 8 by omega))
  refine ⟨by omega, by omega, by omega, by omega, fun k hk => ?_, fun k hk => ?_⟩
  · have := h3 k hk; show M 67 k = ((M 67 k).toNat : Int); omega
  · have := h3 k hk; show (M 67 k).toNat < 1024; omega
theorem FCx_Fr {M M' : pM} {S T : Nat} {sv : Nat → Nat} {w : List (Nat × Nat)} (a : Fr w M M') (h1 : wOK w 60 8 = false) (h2 : wOK w 60 3 = false) (h3 : ∀ k, wOK w 67 k = false) (h : FCx M S T sv) : FCx M' S T sv := by
  obtain ⟨a1, a2, a3, a4, a5, a6⟩ := h
  exact ⟨by rw [a 60 8 h1]; exact a1, a2, by rw [a 60 3 h2]; exact a3, a4, fun k hk => by rw [a 67 k (h3 k)]; exact a5 k hk, a6⟩
theorem FCw_67 (k : Nat) : wOK FCw 67 k = false := by
  unfold wOK FCw
  simp only [List.any_cons, List.any_nil, show Nat.beq 60 67 = false from rfl, show Nat.beq 72 67 = false from rfl, show Nat.beq 73 67 = false from rfl, Bool.false_and, Bool.or_false]
section FCM
variable {D S T ns g : Nat} {sv : Nat → Nat} {M : pM}
theorem m_fc29 (hD : 1 ≤ D) (h : FCx M S T sv) (hns : ns < 2147483648) (hg : g < 1024) {b : Nat} (hb : b < 1024) (x3 x4 x6 : Int) : ∀ m k, k + m = S → xE D 200 29 [.inr 62, .inl (ns : Int), .inl (g : Int), .inl x3, .inl x4, .inl (fcP sv ns g b k : Nat), .inl x6, .inl (k : Int)] [] M = xE D 200 22 [.inr 62, .inl (ns : Int), .inl (g : Int), .inl x3, .inl x4, .inl (fcP sv ns g b S : Nat), .inl x6, .inl (S : Int)] [] M := by
  obtain ⟨h8, hS, h3, hT, hv, hl⟩ := h
  intro m
  induction m with
  | zero =>
    intro k hk
    rw [L_M_findClumps_29, h8, if_pos (by rw [le32_iff] <;> omega), show k = S by omega]
  | succ m ih =>
    intro k hk
    have hp := fcP_lt hl hb k (by omega) (ns := ns) (g := g)
    have hs := hl k (by omega)
    have e1 : ((k : Int) + 1) = ((k + 1 : Nat) : Int) := by omega
    rw [L_M_findClumps_29, h8, if_neg (by rw [le32_iff] <;> omega), m_has hD hns (by omega), pbI_rI, ite01n]
    by_cases q : ns.testBit k = true
    · have e2 : fcP sv ns g b (k + 1) = fcP sv ns g b k := if_pos (Or.inl q)
      rw [if_pos q, e1, ← e2]
      exact ih (k + 1) (by omega)
    · rw [if_neg q, if_pos (by omega), Int.toNat_natCast, hv k (by omega), jand_nat (by omega) (by omega)]
      have hle : sv k &&& fcP sv ns g b k < 1024 := Nat.lt_of_le_of_lt Nat.and_le_left hs
      by_cases z : sv k &&& fcP sv ns g b k = 0
      · have e2 : fcP sv ns g b (k + 1) = fcP sv ns g b k := if_pos (Or.inr z)
        rw [if_pos (by rw [z]; decide), e1, ← e2]
        exact ih (k + 1) (by omega)
      · have e2 : fcP sv ns g b (k + 1) = fcP sv ns g b k ||| nan (sv k) g := if_neg (fun y => y.elim q z)
        rw [if_neg (fun y => z (by
          have := (eq32_iff (x := ((sv k &&& fcP sv ns g b k : Nat) : Int)) (y := 0) (by omega) (by omega) (by omega) (by omega)).mp y
          omega)), if_pos (by omega), jxor_m1 (by omega), jand_not (by omega) (by omega), jor_nat (by omega) (Nat.lt_of_le_of_lt (nan_le _ _) (by omega)), e1, ← e2]
        exact ih (k + 1) (by omega)
theorem m_fc22 (hD : 1 ≤ D) (h : FCx M S T sv) (hns : ns < 2147483648) (hg : g < 1024) {N : Nat} (hN : M 60 30 = (N : Int)) (hN9 : N < 10) (x3 x4 : Int) : ∀ n b was : Nat, ∀ y7 : pV, b < 1024 → was < 1024 → b ≠ was → 1024 ≤ n + b → xE D 200 22 [.inr 62, .inl (ns : Int), .inl (g : Int), .inl x3, .inl x4, .inl (b : Int), .inl (was : Int), y7] [] M = xE D 200 66 [.inr 62, .inl (ns : Int), .inl (g : Int), .inl x3, .inl x4, .inl (fcX sv ns g S b : Nat), .inl (fcX sv ns g S b : Nat), .inl 0] [] (pset M 73 N (fcX sv ns g S b : Nat)) := by
  intro n
  induction n with
  | zero => intro b was y7 hb _ _ hn; omega
  | succ n ih =>
    intro b was y7 hb hw hne hn
    have hl := h.2.2.2.2.2
    rw [L_M_findClumps_22, if_neg (by rw [eq32_iff] <;> omega)]
    have e29 := m_fc29 (sv := sv) hD h hns hg hb x3 x4 b S 0 (by omega)
    rw [show fcP sv ns g b 0 = b from rfl] at e29
    rw [show (.inl 0 : pV) = .inl ((0 : Nat) : Int) from rfl, e29]
    have hp := fcP_lt hl hb S (Nat.le_refl S) (ns := ns) (g := g)
    have hge := fcP_ge (sv := sv) (ns := ns) (g := g) (b := b) S
    by_cases e : fcP sv ns g b S = b
    · have ex : fcX sv ns g S b = b := fcI_fix e _
      rw [e, ex, L_M_findClumps_22, if_pos rfl, hN, if_pos (by omega), Int.toNat_natCast]
      rfl
    · rw [ih _ b _ hp hb e (by omega), fcX_P hl hb]
      rfl
def fcW (M : pM) (c : Nat) (v : Int) (n : Nat) : pM := fun o i => if o = 72 ∧ i < n ∧ c.testBit i = true then v else M o i
theorem fcW_0 (M : pM) (c : Nat) (v : Int) : fcW M c v 0 = M := by
  funext o i
  unfold fcW
  rw [if_neg (fun z => absurd z.2.1 (Nat.not_lt_zero i))]
theorem fcW_ne {M : pM} {c : Nat} {v : Int} {n o i : Nat} (h : o ≠ 72) : fcW M c v n o i = M o i := by
  unfold fcW
  rw [if_neg (fun z => h z.1)]
theorem fcW_s0 {M : pM} {c : Nat} {v : Int} {k : Nat} (h : c.testBit k = false) : fcW M c v (k + 1) = fcW M c v k := by
  funext o i
  unfold fcW
  by_cases q : o = 72 ∧ i < k ∧ c.testBit i = true
  · rw [if_pos q, if_pos ⟨q.1, by omega, q.2.2⟩]
  · rw [if_neg q, if_neg (fun z => q ⟨z.1, by
      rcases Nat.lt_or_ge i k with y | y
      · exact y
      · rw [show i = k by omega, h] at z; exact absurd z.2.2 (by decide), z.2.2⟩)]
theorem fcW_s1 {M : pM} {c : Nat} {v : Int} {k : Nat} (h : c.testBit k = true) : pset (fcW M c v k) 72 k v = fcW M c v (k + 1) := by
  funext o i
  by_cases q1 : o = 72
  · subst q1
    by_cases q2 : i = k
    · subst q2
      rw [pset_eq]; unfold fcW
      rw [if_pos ⟨rfl, by omega, h⟩]
    · rw [pset_ne2 q2]; unfold fcW
      by_cases q : (72 : Nat) = 72 ∧ i < k ∧ c.testBit i = true
      · rw [if_pos q, if_pos ⟨rfl, by omega, q.2.2⟩]
      · rw [if_neg q, if_neg (fun z => q ⟨rfl, by omega, z.2.2⟩)]
  · rw [pset_ne q1, fcW_ne q1, fcW_ne q1]
theorem m_fc66 (hD : 1 ≤ D) (h3 : M 60 3 = (T : Int)) (hT : T ≤ 10) {N c : Nat} (hN : M 60 30 = (N : Int)) (hc : c < 1024) (x1 x2 x3 x4 x6 : Int) : ∀ m k, k + m = T → xE D 200 66 [.inr 62, .inl x1, .inl x2, .inl x3, .inl x4, .inl (c : Int), .inl x6, .inl (k : Int)] [] (fcW M c N k) = xE D 200 7 [.inr 62, .inl x1, .inl x2, .inl (jor x3 c), .inl (x4 + 1), .inl (c : Int), .inl x6, .inl (T : Int)] [] (pset (fcW M c N T) 60 30 ((N : Int) + 1)) := by
  intro m
  induction m with
  | zero =>
    intro k hk
    rw [L_M_findClumps_66, fcW_ne (by decide), fcW_ne (by decide), h3, hN, if_pos (by rw [le32_iff] <;> omega), show k = T by omega]
  | succ m ih =>
    intro k hk
    have e1 : ((k : Int) + 1) = ((k + 1 : Nat) : Int) := by omega
    rw [L_M_findClumps_66, fcW_ne (by decide), h3, if_neg (by rw [le32_iff] <;> omega), m_has hD (by omega) (by omega), pbI_rI, ite01]
    cases hb : c.testBit k with
    | false =>
      rw [if_neg (by decide), ← fcW_s0 hb, e1]
      exact ih (k + 1) (by omega)
    | true =>
      rw [if_pos rfl, if_pos (by omega), Int.toNat_natCast, fcW_ne (by decide), hN, fcW_s1 hb, e1]
      exact ih (k + 1) (by omega)
theorem gM_fcW (hM : gM gAll M) {c N n : Nat} (hN : N < 10) : gM gAll (fcW M c N n) := by
  intro o k hk
  unfold fcW
  split
  · rename_i q
    obtain ⟨rfl, -, -⟩ := q
    rw [gAll_row (o := 72) (v := (0, 0, 9, 0, 0, 0)) (by decide +kernel) (by decide +kernel) (Nat.lt_of_lt_of_le hk (pL_le _))]
    exact Or.inl ⟨rfl, show (0 : Int) ≤ (N : Int) by omega, show (N : Int) ≤ 9 by omega⟩
  · exact hM o k hk
theorem Fr_fcW {M0 : pM} (h : Fr FCw M0 M) {c N n : Nat} : Fr FCw M0 (fcW M c N n) := by
  intro o k q
  unfold fcW
  split
  · rename_i e
    rw [e.1, wOK_r (by decide)] at q; cases q
  · exact h o k q
/-- after t things -/
def FCr (sv : Nat → Nat) (ns g S T : Nat) (M : pM) (t : Nat) (M' : pM) : Prop := gM gAll M' ∧ Fr FCw M M' ∧ M' 60 30 = ((fcA sv ns g S t).1 : Int) ∧ (∀ o, o < T → M' 72 o = fcO sv ns g S (M 72) t o) ∧ ∀ i, M' 73 i = fcM sv ns g S (M 73) t i
theorem m_fc7 (hD : 1 ≤ D) (h : FCx M S T sv) (hns : ns < 2147483648) (hg : g < 1024) : ∀ m t M', t + m = T → FCr sv ns g S T M t M' → ∀ y5 y6 y7, ∃ M'', xE D 200 7 [.inr 62, .inl (ns : Int), .inl (g : Int), .inl ((fcA sv ns g S t).2 : Nat), .inl (t : Int), y5, y6, y7] [] M' = rV M'' ∧ FCr sv ns g S T M T M'' := by
  have hl := h.2.2.2.2.2
  have hT := h.2.2.2.1
  intro m
  induction m with
  | zero =>
    intro t M' ht hr y5 y6 y7
    have h' := FCx_Fr hr.2.1 rfl rfl FCw_67 h
    rw [L_M_findClumps_7, h'.2.2.1, if_pos (by rw [le32_iff] <;> omega)]
    have : t = T := by omega
    subst this
    exact ⟨M', rfl, hr⟩
  | succ m ih =>
    intro t M' ht hr y5 y6 y7
    have h' := FCx_Fr hr.2.1 rfl rfl FCw_67 h
    have e1 : ((t : Int) + 1) = ((t + 1 : Nat) : Int) := by omega
    have ha := fcA_lt hl hg t (by omega) (ns := ns)
    have hle := fcA_le (sv := sv) (ns := ns) (g := g) (S := S) t
    rw [L_M_findClumps_7, h'.2.2.1, if_neg (by rw [le32_iff] <;> omega), m_has hD (by omega) (by omega), pbI_rI, ite01]
    by_cases q : (fcA sv ns g S t).2.testBit t = true
    · have eA : fcA sv ns g S (t + 1) = fcA sv ns g S t := if_pos q
      rw [if_pos q, e1]
      have := ih (t + 1) M' (by omega) ⟨hr.1, hr.2.1, by rw [eA]; exact hr.2.2.1, fun o ho => by
        rw [hr.2.2.2.1 o ho]
        exact (if_neg (fun z => by rw [z.1] at q; cases q)).symm, fun i => by
        rw [hr.2.2.2.2 i]
        exact (if_neg (fun z => by rw [z.1] at q; cases q)).symm⟩ y5 y6 y7
      rw [eA] at this
      exact this
    · have q2 : (fcA sv ns g S t).2.testBit t = false := by simpa using q
      have eA : fcA sv ns g S (t + 1) = ((fcA sv ns g S t).1 + 1, (fcA sv ns g S t).2 ||| fcX sv ns g S (2 ^ t)) := if_neg q
      have hb : 2 ^ t < 1024 := show 2 ^ t < 2 ^ 10 from Nat.pow_lt_pow_right (by decide) (by omega)
      have hb0 : 2 ^ t ≠ 0 := Nat.ne_of_gt (Nat.two_pow_pos t)
      have hc := fcX_lt hl hb (ns := ns) (g := g)
      have hN9 : (fcA sv ns g S t).1 < 10 := by omega
      rw [if_neg q, jshl_one t (by omega), show (.inl 0 : pV) = .inl ((0 : Nat) : Int) from rfl, m_fc22 hD h' hns hg hr.2.2.1 hN9 _ _ 1024 (2 ^ t) 0 y7 hb (by decide) hb0 (Nat.le_add_right _ _)]
      have g1 : gM gAll (pset M' 73 (fcA sv ns g S t).1 (fcX sv ns g S (2 ^ t) : Nat)) := gM_r hr.1 (lo := 0) (hi := 1023) (by decide +kernel) (by decide +kernel) (by omega) (by omega)
      have f1 : Fr FCw M (pset M' 73 (fcA sv ns g S t).1 (fcX sv ns g S (2 ^ t) : Nat)) := Fr_set hr.2.1 (wOK_r (by decide) _)
      have e66 := m_fc66 (M := pset M' 73 (fcA sv ns g S t).1 (fcX sv ns g S (2 ^ t) : Nat)) (N := (fcA sv ns g S t).1) (c := fcX sv ns g S (2 ^ t)) hD (by rw [pset_ne (by decide)]; exact h'.2.2.1) hT (by rw [pset_ne (by decide)]; exact hr.2.2.1) hc ns g ((fcA sv ns g S t).2 : Nat) t (fcX sv ns g S (2 ^ t) : Nat) T 0 (by omega)
      rw [fcW_0] at e66
      rw [show (.inl 0 : pV) = .inl ((0 : Nat) : Int) from rfl, e66, jor_nat (by omega) (by omega), e1]
      have := ih (t + 1) (pset (fcW (pset M' 73 (fcA sv ns g S t).1 (fcX sv ns g S (2 ^ t) : Nat)) (fcX sv ns g S (2 ^ t)) (fcA sv ns g S t).1 T) 60 30 (((fcA sv ns g S t).1 : Int) + 1)) (by omega) ⟨gM_f (gM_fcW g1 (by omega)) (lo := 0) (hi := 10) (by decide +kernel) (by omega) (by omega), Fr_set (Fr_fcW f1) (by decide), by rw [pset_eq, eA]; omega, fun o ho => ?_, fun i => ?_⟩ (.inl (fcX sv ns g S (2 ^ t) : Nat)) (.inl (fcX sv ns g S (2 ^ t) : Nat)) (.inl (T : Int))
      · rw [eA] at this
        exact this
      · rw [pset_ne (by decide)]
        show (if (72 : Nat) = 72 ∧ o < T ∧ (fcX sv ns g S (2 ^ t)).testBit o = true then _ else pset M' 73 _ _ 72 o) = (if _ ∧ _ then _ else _)
        by_cases r : (fcX sv ns g S (2 ^ t)).testBit o = true
        · rw [if_pos ⟨rfl, ho, r⟩, if_pos ⟨q2, r⟩]
        · rw [if_neg (fun z => r z.2.2), if_neg (fun z => r z.2), pset_ne (by decide)]
          exact hr.2.2.2.1 o ho
      · rw [pset_ne (by decide), fcW_ne (by decide)]
        show _ = (if _ ∧ _ then _ else _)
        by_cases r : i = (fcA sv ns g S t).1
        · rw [if_pos ⟨q2, r⟩, r, pset_eq]
        · rw [if_neg (fun z => r z.2), pset_ne2 r]
          exact hr.2.2.2.2 i
theorem m_findClumps {d : Nat} (hd : 2 ≤ d) (hM : gM gAll M) (h : FCx M S T sv) (hns : ns < 2147483648) (hg : g < 1024) : ∃ M', xF d 200 [.inr 62, .inl (ns : Int), .inl (g : Int)] M = rV M' ∧ FCr sv ns g S T M T M' := by
  obtain ⟨D, rfl, hD⟩ := dsucc hd
  rw [T_M_findClumps]
  have f0 : Fr FCw M (pset M 60 30 0) := Fr_set Fr_rfl (by decide)
  exact m_fc7 hD h hns hg T 0 (pset M 60 30 0) (by omega) ⟨gM_f hM (lo := 0) (hi := 10) (by decide +kernel) (by omega) (by omega), f0, pset_eq, fun o _ => pset_ne (by decide), fun i => pset_ne (by decide)⟩ (.inr 0) (.inr 0) (.inr 0)
end FCM
end
section
/-! the reference: sets that are parted, rooms that are too full (by program) -/
theorem nt2_dec : ((List.range 1024).all fun a => ntE ((a ||| 1024 : Nat) : Int) == (if a = 0 then 10 else ntz a)) = true := by decide +kernel
/-- the first thing of a set, or 10 -/
def fst1 (a : Nat) : Nat := if a = 0 then 10 else (ntz a).toNat
theorem ntz_lt {a : Nat} (ha : a < 1024) (h0 : a ≠ 0) : 0 ≤ ntz a ∧ ntz a < 10 := by
  unfold ntz
  rw [if_neg h0]
  rcases firstN_spec a.testBit 10 0 with ⟨-, h2⟩ | ⟨j, h1, -, h3, -⟩
  · refine absurd (Nat.eq_of_testBit_eq fun i => ?_) h0
    rw [Nat.zero_testBit]
    rcases Nat.lt_or_ge i 10 with y | y
    · exact h2 i (Nat.zero_le i) (by omega)
    · exact Nat.testBit_lt_two_pow (Nat.lt_of_lt_of_le ha (pow_le_of (k := 10) y))
  · rw [h1]; omega
theorem j_ntz2 {d : Nat} (hd : 1 ≤ d) {a : Nat} (ha : a < 1024) {M : pM} : xF d 271 [.inl ((a ||| 1024 : Nat) : Int)] M = rI (fst1 a : Nat) M := by
  obtain ⟨D, rfl, -⟩ := dsucc hd
  rw [T_I_numberOfTrailingZeros]
  have h := List.all_eq_true.mp nt2_dec a (List.mem_range.mpr ha)
  rw [beq_iff_eq] at h
  simp only [sI_ite]
  have e : ntE ((a ||| 1024 : Nat) : Int) = ((fst1 a : Nat) : Int) := by
    rw [h]; unfold fst1
    by_cases q : a = 0
    · rw [if_pos q, if_pos q]; rfl
    · rw [if_neg q, if_neg q]
      have := ntz_lt ha q
      omega
  unfold ntE at e
  rw [e]
/-- some thing below k of the set a is elsewhere than its first -/
def pdF (p : Nat → Int) (a : Nat) : Nat → Bool
  | 0 => false
  | k + 1 => pdF p a k || (a.testBit k && !decide (eq32 (p k) (p (fst1 a))))
def pdV (b s : Nat) (c : Bool) : Int := ((if c then b ||| 2 ^ s else b : Nat) : Int)
theorem pdV_or {b s : Nat} (hs : s < 8) (hb : b < 2 ^ s) (c : Bool) : jor (pdV b s c) (jshl 1 (s : Int)) = pdV b s true := by
  have h1 : 2 ^ s < 1024 := Nat.lt_of_lt_of_le (Nat.pow_lt_pow_right (by decide) hs) (by decide)
  unfold pdV
  rw [jshl_one s (by omega)]
  cases c with
  | false => rw [if_neg (by decide), if_pos rfl, jor_nat (by omega) (by omega)]
  | true =>
    rw [if_pos rfl, jor_nat (Nat.lt_trans (or_pow_lt hb) (by have := Nat.pow_lt_pow_right (show 1 < 2 by decide) (show s + 1 < 10 by omega); omega)) (by omega)]
    rw [show (b ||| 2 ^ s ||| 2 ^ s) = (b ||| 2 ^ s) by rw [Nat.or_assoc, Nat.or_self]]
theorem jor_0 {a : Nat} (h : a < 2147483648) : jor (a : Int) 0 = (a : Int) := by
  have := jor_nat (b := 0) h (by decide)
  rw [Nat.or_zero] at this
  exact this
/-- what is free in a room -/
def frF (M : pM) (p : Nat → Int) (r : Int) : Nat → Int
  | 0 => M 61 r.toNat
  | k + 1 => if eq32 (p k) r then frF M p r k - M 63 k else frF M p r k - 0
section MP
variable {D d S T : Nat} {sv : Nat → Nat} {M : pM}
theorem m_pd18_66 (hD : 1 ≤ D) (h : FCx M S T sv) {s b : Nat} (hs : s < S) (hb : b < 2 ^ s) : ∀ m k, k + m = T → xE D 210 18 [.inr 62, .inr 68, .inl (pdV b s (pdF (M 66) (sv s) k)), .inl (s : Int), .inl (fst1 (sv s) : Nat), .inl (k : Int)] [] M = xE D 210 4 [.inr 62, .inr 68, .inl (pdV b s (pdF (M 66) (sv s) T)), .inl ((s : Int) + 1), .inl (fst1 (sv s) : Nat), .inl (T : Int)] [] M := by
  obtain ⟨h8, hS, h3, hT, hv, hl⟩ := h
  intro m
  induction m with
  | zero =>
    intro k hk
    rw [L_M_partedSets_66_18, h3, if_pos (by rw [le32_iff] <;> omega), show k = T by omega]
  | succ m ih =>
    intro k hk
    have e1 : ((k : Int) + 1) = ((k + 1 : Nat) : Int) := by omega
    have hls := hl s hs
    rw [L_M_partedSets_66_18, h3, if_neg (by rw [le32_iff] <;> omega), if_pos (by omega), Int.toNat_natCast, hv s hs, m_has hD (by omega) (by omega), pbI_rI, ite01]
    cases hb2 : (sv s).testBit k with
    | false =>
      have e2 : pdF (M 66) (sv s) (k + 1) = pdF (M 66) (sv s) k := by
        show (pdF (M 66) (sv s) k || ((sv s).testBit k && _)) = _
        rw [hb2, Bool.false_and, Bool.or_false]
      rw [if_neg (by decide), e1, ← e2]
      exact ih (k + 1) (by omega)
    | true =>
      have h0 : sv s ≠ 0 := fun z => by rw [z, Nat.zero_testBit] at hb2; cases hb2
      have hf : fst1 (sv s) < 10 := by
        unfold fst1
        rw [if_neg h0]
        have := ntz_lt hls h0
        omega
      rw [if_pos rfl, if_pos (by omega), if_pos (by omega), Int.toNat_natCast, Int.toNat_natCast]
      by_cases q : eq32 (M 66 k) (M 66 (fst1 (sv s)))
      · have e2 : pdF (M 66) (sv s) (k + 1) = pdF (M 66) (sv s) k := by
          show (pdF (M 66) (sv s) k || ((sv s).testBit k && !decide (eq32 (M 66 k) (M 66 (fst1 (sv s)))))) = _
          rw [decide_eq_true q, Bool.not_true, Bool.and_false, Bool.or_false]
        rw [if_pos q, e1, ← e2]
        exact ih (k + 1) (by omega)
      · have e2 : pdF (M 66) (sv s) (k + 1) = true := by
          show (pdF (M 66) (sv s) k || ((sv s).testBit k && !decide (eq32 (M 66 k) (M 66 (fst1 (sv s)))))) = _
          rw [decide_eq_false q, hb2]
          cases pdF (M 66) (sv s) k <;> rfl
        rw [if_neg q, pdV_or (by omega) hb, e1, ← e2]
        exact ih (k + 1) (by omega)
theorem m_parted_66 (hd : 2 ≤ d) (h : FCx M S T sv) : xF d 210 [.inr 62, .inr 68] M = rI (bitsOf (fun s => pdF (M 66) (sv s) T) S : Nat) M := by
  obtain ⟨D, rfl, hD⟩ := dsucc hd
  have key : ∀ m s (y4 y5 : pV), s + m = S → xE D 210 4 [.inr 62, .inr 68, .inl (bitsOf (fun s => pdF (M 66) (sv s) T) s : Nat), .inl (s : Int), y4, y5] [] M = rI (bitsOf (fun s => pdF (M 66) (sv s) T) S : Nat) M := by
    intro m
    induction m with
    | zero =>
      intro s y4 y5 hs
      have := h.2.1
      rw [L_M_partedSets_66_4, h.1, if_pos (by rw [le32_iff] <;> omega), show s = S by omega]
    | succ m ih =>
      intro s y4 y5 hs
      have h8 := h.2.1
      have hls := h.2.2.2.2.2 s (by omega)
      have e1 : ((s : Int) + 1) = ((s + 1 : Nat) : Int) := by omega
      have hb := bitsOf_lt (fun s => pdF (M 66) (sv s) T) s
      rw [L_M_partedSets_66_4, h.1, if_neg (by rw [le32_iff] <;> omega), if_pos (by omega), Int.toNat_natCast, h.2.2.2.2.1 s (by omega), show (1024 : Int) = ((1024 : Nat) : Int) from rfl, jor_nat (by omega) (by omega), j_ntz2 hD hls, pbI_rI]
      have := m_pd18_66 hD h (s := s) (by omega) hb T 0 (by omega)
      rw [show pdV (bitsOf (fun s => pdF (M 66) (sv s) T) s) s (pdF (M 66) (sv s) 0) = (bitsOf (fun s => pdF (M 66) (sv s) T) s : Nat) from rfl] at this
      rw [show (.inl 0 : pV) = .inl ((0 : Nat) : Int) from rfl, this, e1]
      exact ih (s + 1) _ _ (by omega)
  rw [T_M_partedSets_66]
  exact key S 0 _ _ (by omega)
theorem m_freeIn_66 (hd : 1 ≤ d) (h3 : M 60 3 = (T : Int)) (hT : T ≤ 10) {r : Int} (hr : 0 ≤ r ∧ r < 6) : xF d 198 [.inr 62, .inr 68, .inl r] M = rI (frF M (M 66) r T) M := by
  obtain ⟨D, rfl, hD⟩ := dsucc hd
  have key : ∀ m k, k + m = T → xE D 198 7 [.inr 62, .inr 68, .inl r, .inl (frF M (M 66) r k), .inl (k : Int)] [] M = rI (frF M (M 66) r T) M := by
    intro m
    induction m with
    | zero =>
      intro k hk
      rw [L_M_freeIn_66_7, h3, if_pos (by rw [le32_iff] <;> omega), show k = T by omega]
    | succ m ih =>
      intro k hk
      have e1 : ((k : Int) + 1) = ((k + 1 : Nat) : Int) := by omega
      rw [L_M_freeIn_66_7, h3, if_neg (by rw [le32_iff] <;> omega), if_pos (by omega), Int.toNat_natCast]
      by_cases q : eq32 (M 66 k) r
      · have e2 : frF M (M 66) r (k + 1) = frF M (M 66) r k - M 63 k := if_pos q
        rw [if_neg (fun z => z q), if_pos (by omega), e1, ← e2]
        exact ih (k + 1) (by omega)
      · have e2 : frF M (M 66) r (k + 1) = frF M (M 66) r k - 0 := if_neg q
        rw [if_pos q, e1, ← e2]
        exact ih (k + 1) (by omega)
  rw [T_M_freeIn_66, if_pos hr]
  exact key T 0 (by omega)
theorem m_full_66 (hd : 2 ≤ d) (h3 : M 60 3 = (T : Int)) (hT : T ≤ 10) {N : Nat} (h0 : M 60 0 = (N : Int)) (hN : N ≤ 6) : xF d 211 [.inr 62, .inr 68] M = rI (bitsOf (fun r => decide (¬ le32 0 (frF M (M 66) r T))) N : Nat) M := by
  obtain ⟨D, rfl, hD⟩ := dsucc hd
  have key : ∀ m r, r + m = N → xE D 211 4 [.inr 62, .inr 68, .inl (bitsOf (fun r => decide (¬ le32 0 (frF M (M 66) r T))) r : Nat), .inl (r : Int)] [] M = rI (bitsOf (fun r => decide (¬ le32 0 (frF M (M 66) r T))) N : Nat) M := by
    intro m
    induction m with
    | zero =>
      intro r hr
      rw [L_M_fullRooms_66_4, h0, if_pos (by rw [le32_iff] <;> omega), show r = N by omega]
    | succ m ih =>
      intro r hr
      have e1 : ((r : Int) + 1) = ((r + 1 : Nat) : Int) := by omega
      have hb := bitsOf_lt (fun r => decide (¬ le32 0 (frF M (M 66) r T))) r
      have hb2 : 2 ^ r < 64 := show 2 ^ r < 2 ^ 6 from Nat.pow_lt_pow_right (by decide) (by omega)
      rw [L_M_fullRooms_66_4, h0, if_neg (by rw [le32_iff] <;> omega), m_freeIn_66 hD h3 hT (by omega), pbI_rI]
      by_cases q : le32 0 (frF M (M 66) r T)
      · have e2 : bitsOf (fun r => decide (¬ le32 0 (frF M (M 66) r T))) (r + 1) = bitsOf (fun r => decide (¬ le32 0 (frF M (M 66) r T))) r := if_neg (by simpa using q)
        rw [if_pos q, jor_0 (by omega), e1, ← e2]
        exact ih (r + 1) (by omega)
      · have e2 : bitsOf (fun r => decide (¬ le32 0 (frF M (M 66) r T))) (r + 1) = bitsOf (fun r => decide (¬ le32 0 (frF M (M 66) r T))) r ||| 2 ^ r := if_pos (by simpa using q)
        rw [if_neg q, jor_shl hb (by omega), e1, ← e2]
        exact ih (r + 1) (by omega)
  rw [T_M_fullRooms_66]
  exact key N 0 (by omega)
theorem m_pd18_78 (hD : 1 ≤ D) (h : FCx M S T sv) {s b : Nat} (hs : s < S) (hb : b < 2 ^ s) : ∀ m k, k + m = T → xE D 210 18 [.inr 62, .inr 80, .inl (pdV b s (pdF (M 78) (sv s) k)), .inl (s : Int), .inl (fst1 (sv s) : Nat), .inl (k : Int)] [] M = xE D 210 4 [.inr 62, .inr 80, .inl (pdV b s (pdF (M 78) (sv s) T)), .inl ((s : Int) + 1), .inl (fst1 (sv s) : Nat), .inl (T : Int)] [] M := by
  obtain ⟨h8, hS, h3, hT, hv, hl⟩ := h
  intro m
  induction m with
  | zero =>
    intro k hk
    rw [L_M_partedSets_78_18, h3, if_pos (by rw [le32_iff] <;> omega), show k = T by omega]
  | succ m ih =>
    intro k hk
    have e1 : ((k : Int) + 1) = ((k + 1 : Nat) : Int) := by omega
    have hls := hl s hs
    rw [L_M_partedSets_78_18, h3, if_neg (by rw [le32_iff] <;> omega), if_pos (by omega), Int.toNat_natCast, hv s hs, m_has hD (by omega) (by omega), pbI_rI, ite01]
    cases hb2 : (sv s).testBit k with
    | false =>
      have e2 : pdF (M 78) (sv s) (k + 1) = pdF (M 78) (sv s) k := by
        show (pdF (M 78) (sv s) k || ((sv s).testBit k && _)) = _
        rw [hb2, Bool.false_and, Bool.or_false]
      rw [if_neg (by decide), e1, ← e2]
      exact ih (k + 1) (by omega)
    | true =>
      have h0 : sv s ≠ 0 := fun z => by rw [z, Nat.zero_testBit] at hb2; cases hb2
      have hf : fst1 (sv s) < 10 := by
        unfold fst1
        rw [if_neg h0]
        have := ntz_lt hls h0
        omega
      rw [if_pos rfl, if_pos (by omega), if_pos (by omega), Int.toNat_natCast, Int.toNat_natCast]
      by_cases q : eq32 (M 78 k) (M 78 (fst1 (sv s)))
      · have e2 : pdF (M 78) (sv s) (k + 1) = pdF (M 78) (sv s) k := by
          show (pdF (M 78) (sv s) k || ((sv s).testBit k && !decide (eq32 (M 78 k) (M 78 (fst1 (sv s)))))) = _
          rw [decide_eq_true q, Bool.not_true, Bool.and_false, Bool.or_false]
        rw [if_pos q, e1, ← e2]
        exact ih (k + 1) (by omega)
      · have e2 : pdF (M 78) (sv s) (k + 1) = true := by
          show (pdF (M 78) (sv s) k || ((sv s).testBit k && !decide (eq32 (M 78 k) (M 78 (fst1 (sv s)))))) = _
          rw [decide_eq_false q, hb2]
          cases pdF (M 78) (sv s) k <;> rfl
        rw [if_neg q, pdV_or (by omega) hb, e1, ← e2]
        exact ih (k + 1) (by omega)
theorem m_parted_78 (hd : 2 ≤ d) (h : FCx M S T sv) : xF d 210 [.inr 62, .inr 80] M = rI (bitsOf (fun s => pdF (M 78) (sv s) T) S : Nat) M := by
  obtain ⟨D, rfl, hD⟩ := dsucc hd
  have key : ∀ m s (y4 y5 : pV), s + m = S → xE D 210 4 [.inr 62, .inr 80, .inl (bitsOf (fun s => pdF (M 78) (sv s) T) s : Nat), .inl (s : Int), y4, y5] [] M = rI (bitsOf (fun s => pdF (M 78) (sv s) T) S : Nat) M := by
    intro m
    induction m with
    | zero =>
      intro s y4 y5 hs
      have := h.2.1
      rw [L_M_partedSets_78_4, h.1, if_pos (by rw [le32_iff] <;> omega), show s = S by omega]
    | succ m ih =>
      intro s y4 y5 hs
      have h8 := h.2.1
      have hls := h.2.2.2.2.2 s (by omega)
      have e1 : ((s : Int) + 1) = ((s + 1 : Nat) : Int) := by omega
      have hb := bitsOf_lt (fun s => pdF (M 78) (sv s) T) s
      rw [L_M_partedSets_78_4, h.1, if_neg (by rw [le32_iff] <;> omega), if_pos (by omega), Int.toNat_natCast, h.2.2.2.2.1 s (by omega), show (1024 : Int) = ((1024 : Nat) : Int) from rfl, jor_nat (by omega) (by omega), j_ntz2 hD hls, pbI_rI]
      have := m_pd18_78 hD h (s := s) (by omega) hb T 0 (by omega)
      rw [show pdV (bitsOf (fun s => pdF (M 78) (sv s) T) s) s (pdF (M 78) (sv s) 0) = (bitsOf (fun s => pdF (M 78) (sv s) T) s : Nat) from rfl] at this
      rw [show (.inl 0 : pV) = .inl ((0 : Nat) : Int) from rfl, this, e1]
      exact ih (s + 1) _ _ (by omega)
  rw [T_M_partedSets_78]
  exact key S 0 _ _ (by omega)
theorem m_freeIn_78 (hd : 1 ≤ d) (h3 : M 60 3 = (T : Int)) (hT : T ≤ 10) {r : Int} (hr : 0 ≤ r ∧ r < 6) : xF d 198 [.inr 62, .inr 80, .inl r] M = rI (frF M (M 78) r T) M := by
  obtain ⟨D, rfl, hD⟩ := dsucc hd
  have key : ∀ m k, k + m = T → xE D 198 7 [.inr 62, .inr 80, .inl r, .inl (frF M (M 78) r k), .inl (k : Int)] [] M = rI (frF M (M 78) r T) M := by
    intro m
    induction m with
    | zero =>
      intro k hk
      rw [L_M_freeIn_78_7, h3, if_pos (by rw [le32_iff] <;> omega), show k = T by omega]
    | succ m ih =>
      intro k hk
      have e1 : ((k : Int) + 1) = ((k + 1 : Nat) : Int) := by omega
      rw [L_M_freeIn_78_7, h3, if_neg (by rw [le32_iff] <;> omega), if_pos (by omega), Int.toNat_natCast]
      by_cases q : eq32 (M 78 k) r
      · have e2 : frF M (M 78) r (k + 1) = frF M (M 78) r k - M 63 k := if_pos q
        rw [if_neg (fun z => z q), if_pos (by omega), e1, ← e2]
        exact ih (k + 1) (by omega)
      · have e2 : frF M (M 78) r (k + 1) = frF M (M 78) r k - 0 := if_neg q
        rw [if_pos q, e1, ← e2]
        exact ih (k + 1) (by omega)
  rw [T_M_freeIn_78, if_pos hr]
  exact key T 0 (by omega)
theorem m_full_78 (hd : 2 ≤ d) (h3 : M 60 3 = (T : Int)) (hT : T ≤ 10) {N : Nat} (h0 : M 60 0 = (N : Int)) (hN : N ≤ 6) : xF d 211 [.inr 62, .inr 80] M = rI (bitsOf (fun r => decide (¬ le32 0 (frF M (M 78) r T))) N : Nat) M := by
  obtain ⟨D, rfl, hD⟩ := dsucc hd
  have key : ∀ m r, r + m = N → xE D 211 4 [.inr 62, .inr 80, .inl (bitsOf (fun r => decide (¬ le32 0 (frF M (M 78) r T))) r : Nat), .inl (r : Int)] [] M = rI (bitsOf (fun r => decide (¬ le32 0 (frF M (M 78) r T))) N : Nat) M := by
    intro m
    induction m with
    | zero =>
      intro r hr
      rw [L_M_fullRooms_78_4, h0, if_pos (by rw [le32_iff] <;> omega), show r = N by omega]
    | succ m ih =>
      intro r hr
      have e1 : ((r : Int) + 1) = ((r + 1 : Nat) : Int) := by omega
      have hb := bitsOf_lt (fun r => decide (¬ le32 0 (frF M (M 78) r T))) r
      have hb2 : 2 ^ r < 64 := show 2 ^ r < 2 ^ 6 from Nat.pow_lt_pow_right (by decide) (by omega)
      rw [L_M_fullRooms_78_4, h0, if_neg (by rw [le32_iff] <;> omega), m_freeIn_78 hD h3 hT (by omega), pbI_rI]
      by_cases q : le32 0 (frF M (M 78) r T)
      · have e2 : bitsOf (fun r => decide (¬ le32 0 (frF M (M 78) r T))) (r + 1) = bitsOf (fun r => decide (¬ le32 0 (frF M (M 78) r T))) r := if_neg (by simpa using q)
        rw [if_pos q, jor_0 (by omega), e1, ← e2]
        exact ih (r + 1) (by omega)
      · have e2 : bitsOf (fun r => decide (¬ le32 0 (frF M (M 78) r T))) (r + 1) = bitsOf (fun r => decide (¬ le32 0 (frF M (M 78) r T))) r ||| 2 ^ r := if_pos (by simpa using q)
        rw [if_neg q, jor_shl hb (by omega), e1, ← e2]
        exact ih (r + 1) (by omega)
  rw [T_M_fullRooms_78]
  exact key N 0 (by omega)
theorem m_pd18_81 (hD : 1 ≤ D) (h : FCx M S T sv) {s b : Nat} (hs : s < S) (hb : b < 2 ^ s) : ∀ m k, k + m = T → xE D 210 18 [.inr 62, .inr 83, .inl (pdV b s (pdF (M 81) (sv s) k)), .inl (s : Int), .inl (fst1 (sv s) : Nat), .inl (k : Int)] [] M = xE D 210 4 [.inr 62, .inr 83, .inl (pdV b s (pdF (M 81) (sv s) T)), .inl ((s : Int) + 1), .inl (fst1 (sv s) : Nat), .inl (T : Int)] [] M := by
  obtain ⟨h8, hS, h3, hT, hv, hl⟩ := h
  intro m
  induction m with
  | zero =>
    intro k hk
    rw [L_M_partedSets_81_18, h3, if_pos (by rw [le32_iff] <;> omega), show k = T by omega]
  | succ m ih =>
    intro k hk
    have e1 : ((k : Int) + 1) = ((k + 1 : Nat) : Int) := by omega
    have hls := hl s hs
    rw [L_M_partedSets_81_18, h3, if_neg (by rw [le32_iff] <;> omega), if_pos (by omega), Int.toNat_natCast, hv s hs, m_has hD (by omega) (by omega), pbI_rI, ite01]
    cases hb2 : (sv s).testBit k with
    | false =>
      have e2 : pdF (M 81) (sv s) (k + 1) = pdF (M 81) (sv s) k := by
        show (pdF (M 81) (sv s) k || ((sv s).testBit k && _)) = _
        rw [hb2, Bool.false_and, Bool.or_false]
      rw [if_neg (by decide), e1, ← e2]
      exact ih (k + 1) (by omega)
    | true =>
      have h0 : sv s ≠ 0 := fun z => by rw [z, Nat.zero_testBit] at hb2; cases hb2
      have hf : fst1 (sv s) < 10 := by
        unfold fst1
        rw [if_neg h0]
        have := ntz_lt hls h0
        omega
      rw [if_pos rfl, if_pos (by omega), if_pos (by omega), Int.toNat_natCast, Int.toNat_natCast]
      by_cases q : eq32 (M 81 k) (M 81 (fst1 (sv s)))
      · have e2 : pdF (M 81) (sv s) (k + 1) = pdF (M 81) (sv s) k := by
          show (pdF (M 81) (sv s) k || ((sv s).testBit k && !decide (eq32 (M 81 k) (M 81 (fst1 (sv s)))))) = _
          rw [decide_eq_true q, Bool.not_true, Bool.and_false, Bool.or_false]
        rw [if_pos q, e1, ← e2]
        exact ih (k + 1) (by omega)
      · have e2 : pdF (M 81) (sv s) (k + 1) = true := by
          show (pdF (M 81) (sv s) k || ((sv s).testBit k && !decide (eq32 (M 81 k) (M 81 (fst1 (sv s)))))) = _
          rw [decide_eq_false q, hb2]
          cases pdF (M 81) (sv s) k <;> rfl
        rw [if_neg q, pdV_or (by omega) hb, e1, ← e2]
        exact ih (k + 1) (by omega)
theorem m_parted_81 (hd : 2 ≤ d) (h : FCx M S T sv) : xF d 210 [.inr 62, .inr 83] M = rI (bitsOf (fun s => pdF (M 81) (sv s) T) S : Nat) M := by
  obtain ⟨D, rfl, hD⟩ := dsucc hd
  have key : ∀ m s (y4 y5 : pV), s + m = S → xE D 210 4 [.inr 62, .inr 83, .inl (bitsOf (fun s => pdF (M 81) (sv s) T) s : Nat), .inl (s : Int), y4, y5] [] M = rI (bitsOf (fun s => pdF (M 81) (sv s) T) S : Nat) M := by
    intro m
    induction m with
    | zero =>
      intro s y4 y5 hs
      have := h.2.1
      rw [L_M_partedSets_81_4, h.1, if_pos (by rw [le32_iff] <;> omega), show s = S by omega]
    | succ m ih =>
      intro s y4 y5 hs
      have h8 := h.2.1
      have hls := h.2.2.2.2.2 s (by omega)
      have e1 : ((s : Int) + 1) = ((s + 1 : Nat) : Int) := by omega
      have hb := bitsOf_lt (fun s => pdF (M 81) (sv s) T) s
      rw [L_M_partedSets_81_4, h.1, if_neg (by rw [le32_iff] <;> omega), if_pos (by omega), Int.toNat_natCast, h.2.2.2.2.1 s (by omega), show (1024 : Int) = ((1024 : Nat) : Int) from rfl, jor_nat (by omega) (by omega), j_ntz2 hD hls, pbI_rI]
      have := m_pd18_81 hD h (s := s) (by omega) hb T 0 (by omega)
      rw [show pdV (bitsOf (fun s => pdF (M 81) (sv s) T) s) s (pdF (M 81) (sv s) 0) = (bitsOf (fun s => pdF (M 81) (sv s) T) s : Nat) from rfl] at this
      rw [show (.inl 0 : pV) = .inl ((0 : Nat) : Int) from rfl, this, e1]
      exact ih (s + 1) _ _ (by omega)
  rw [T_M_partedSets_81]
  exact key S 0 _ _ (by omega)
end MP
end
section
/-! the reference: arrangements by their codes -/
theorem frF_cg {M M' : pM} {p p' : Nat → Int} {r : Int} : ∀ n, (∀ k, M' 61 k = M 61 k) → (∀ k, M' 63 k = M 63 k) → (∀ t, t < n → p' t = p t) → frF M' p' r n = frF M p r n
  | 0, h1, _, _ => h1 _
  | n + 1, h1, h2, h3 => by
    unfold frF
    rw [frF_cg n h1 h2 (fun t ht => h3 t (by omega)), h2 n, h3 n (by omega)]
/-- the room of clump c in an arrangement -/
def dg (R C code c : Nat) : Nat := code / R ^ (C - 1 - c) % R
def RWx (M : pM) (R T C : Nat) : Prop := M 60 0 = (R : Int) ∧ 1 ≤ R ∧ R ≤ 6 ∧ M 60 3 = (T : Int) ∧ T ≤ 10 ∧ M 60 30 = (C : Int) ∧ C ≤ 10 ∧ M 60 38 = 0 ∧ ∀ t, t < T → ∃ c : Nat, M 72 t = (c : Int) ∧ c < C
/-- places that are not of the rows -/
def RWn (M M' : pM) : Prop := ∀ o i, o ≠ 78 → o ≠ 79 → ¬ (o = 60 ∧ i = 40) → M' o i = M o i
theorem RWn_rfl {M : pM} : RWn M M := fun _ _ _ _ _ => rfl
theorem RWn_tr {M M1 M2 : pM} (h1 : RWn M M1) (h2 : RWn M1 M2) : RWn M M2 := fun o i a b c => (h2 o i a b c).trans (h1 o i a b c)
theorem RWx_of {M M' : pM} {R T C : Nat} (a : RWn M M') (h : RWx M R T C) : RWx M' R T C := by
  obtain ⟨h1, h2, h3, h4, h5, h6, h7, h8, h9⟩ := h
  refine ⟨by rw [a 60 0 (by decide) (by decide) (by decide)]; exact h1, h2, h3, by rw [a 60 3 (by decide) (by decide) (by decide)]; exact h4, h5, by rw [a 60 30 (by decide) (by decide) (by decide)]; exact h6, h7, by rw [a 60 38 (by decide) (by decide) (by decide)]; exact h8, fun t ht => ?_⟩
  rw [a 72 t (by decide) (by decide) (by omega)]
  exact h9 t ht
def trP (M : pM) (R C code : Nat) : Nat → Int := fun t => (dg R C code (M 72 t).toNat : Nat)
def fnB (M : pM) (R T C code : Nat) : Bool := allTo (fun r => decide (le32 0 (frF M (trP M R C code) r T))) R
theorem fnB_of {M M' : pM} {R T C code : Nat} (a : RWn M M') : fnB M' R T C code = fnB M R T C code := by
  unfold fnB
  congr 1
  funext r
  have e : frF M' (trP M' R C code) r T = frF M (trP M R C code) r T := frF_cg T (fun k => a 61 k (by decide) (by decide) (by omega)) (fun k => a 63 k (by decide) (by decide) (by omega)) (fun t _ => by
    unfold trP
    rw [a 72 t (by decide) (by decide) (by omega)])
  rw [e]
def rwA (R C code k : Nat) (M : pM) : pM := fun o i => if o = 79 ∧ k ≤ i ∧ i < C then (dg R C code i : Nat) else M o i
def rwB (R C code t : Nat) (M : pM) : pM := fun o i => if o = 78 ∧ i < t then trP M R C code i else M o i
theorem rwA_ne {R C code k o i : Nat} {M : pM} (h : o ≠ 79) : rwA R C code k M o i = M o i := by
  unfold rwA
  rw [if_neg (fun z => h z.1)]
theorem rwB_ne {R C code k o i : Nat} {M : pM} (h : o ≠ 78) : rwB R C code k M o i = M o i := by
  unfold rwB
  rw [if_neg (fun z => h z.1)]
section RW
variable {D d R T C code W : Nat} {M : pM}
theorem m_has0 (hd : 1 ≤ d) {b : Nat} (hb : b < 32) : xF d 170 [.inl 0, .inl (b : Int)] M = rI 0 M := by
  have := m_has (a := 0) (M := M) hd (by decide) hb
  rw [Nat.zero_testBit] at this
  exact this
theorem dg_lt (h : 1 ≤ R) (c : Nat) : dg R C code c < R := Nat.mod_lt _ h
theorem m_if8 (hD : 1 ≤ D) (h : RWx M R T C) (hc : code < 2000000) : ∀ k, k ≤ C → xE D 231 8 [.inr 62, .inl (code / R ^ (C - k) : Nat), .inl ((k : Int) - 1)] [] (rwA R C code k M) = xE D 231 34 [.inr 62, .inl (code / R ^ C : Nat), .inl 0] [] (rwA R C code 0 M) := by
  obtain ⟨h1, h2, h3, h4, h5, h6, h7, h8, h9⟩ := h
  intro k
  induction k with
  | zero =>
    intro _
    rw [L_M_isFine_8, if_pos (by rw [lt32_iff] <;> omega), Nat.sub_zero]
  | succ k ih =>
    intro hk
    have hv : code / R ^ (C - (k + 1)) < 2000000 := Nat.lt_of_le_of_lt (Nat.div_le_self _ _) hc
    have e0 : ((k + 1 : Nat) : Int) - 1 = (k : Int) := by omega
    have hR : ¬ eq32 (R : Int) 0 := fun z => by
      rw [eq32_iff (by omega) (by omega) (by omega) (by omega)] at z
      omega
    rw [L_M_isFine_8, e0, if_neg (by rw [lt32_iff] <;> omega), rwA_ne (by decide), h8, m_has0 hD (by omega), pbI_rI, if_pos rfl, rwA_ne (by decide), h1, if_neg hR, if_pos (by omega), pset_ne (by decide), rwA_ne (by decide), h1, if_neg hR, jdiv_nat (by omega) (by omega) (by omega), jrem_nat (by omega) (by omega) (by omega), Int.toNat_natCast]
    have e1 : code / R ^ (C - (k + 1)) / R = code / R ^ (C - k) := by
      rw [Nat.div_div_eq_div_mul, ← Nat.pow_succ]
      congr 2
      omega
    have e2 : pset (rwA R C code (k + 1) M) 79 k ((code / R ^ (C - (k + 1)) % R : Nat) : Int) = rwA R C code k M := by
      funext o i
      by_cases q1 : o = 79
      · subst q1
        by_cases q2 : i = k
        · subst q2
          rw [pset_eq]; unfold rwA
          rw [if_pos ⟨rfl, by omega, by omega⟩]
          unfold dg
          rw [show C - (i + 1) = C - 1 - i by omega]
        · rw [pset_ne2 q2]; unfold rwA
          by_cases q : (79 : Nat) = 79 ∧ k + 1 ≤ i ∧ i < C
          · rw [if_pos q, if_pos ⟨rfl, by omega, q.2.2⟩]
          · rw [if_neg q, if_neg (fun z => q ⟨rfl, by omega, z.2.2⟩)]
      · rw [pset_ne q1, rwA_ne q1, rwA_ne q1]
    rw [e1, e2]
    exact ih (by omega)
theorem m_if34 (h : RWx M R T C) (x1 : Int) : ∀ m t, t + m = T → xE D 231 34 [.inr 62, .inl x1, .inl (t : Int)] [] (rwB R C code t (rwA R C code 0 M)) = xE D 231 53 [.inr 62, .inl x1, .inl 0] [] (rwB R C code T (rwA R C code 0 M)) := by
  obtain ⟨h1, h2, h3, h4, h5, h6, h7, h8, h9⟩ := h
  intro m
  induction m with
  | zero =>
    intro t ht
    rw [L_M_isFine_34, rwB_ne (by decide), rwA_ne (by decide), h4, if_pos (by rw [le32_iff] <;> omega), show t = T by omega]
  | succ m ih =>
    intro t ht
    obtain ⟨c, hc, hcl⟩ := h9 t (by omega)
    have e1 : ((t : Int) + 1) = ((t + 1 : Nat) : Int) := by omega
    have e72 : rwB R C code t (rwA R C code 0 M) 72 t = (c : Int) := by rw [rwB_ne (by decide), rwA_ne (by decide), hc]
    rw [L_M_isFine_34, rwB_ne (by decide), rwA_ne (by decide), h4, if_neg (by rw [le32_iff] <;> omega), if_pos (by omega), Int.toNat_natCast, e72, if_pos (by omega), if_pos (by omega), Int.toNat_natCast, rwB_ne (by decide)]
    have e2 : rwA R C code 0 M 79 c = (dg R C code c : Nat) := by
      unfold rwA
      rw [if_pos ⟨rfl, Nat.zero_le _, hcl⟩]
    have e3 : pset (rwB R C code t (rwA R C code 0 M)) 78 t (dg R C code c : Nat) = rwB R C code (t + 1) (rwA R C code 0 M) := by
      funext o i
      by_cases q1 : o = 78
      · subst q1
        by_cases q2 : i = t
        · subst q2
          rw [pset_eq]; unfold rwB
          rw [if_pos ⟨rfl, by omega⟩]
          unfold trP
          rw [rwA_ne (by decide), hc, Int.toNat_natCast]
        · rw [pset_ne2 q2]; unfold rwB
          by_cases q : (78 : Nat) = 78 ∧ i < t
          · rw [if_pos q, if_pos ⟨rfl, by omega⟩]
          · rw [if_neg q, if_neg (fun z => q ⟨rfl, by omega⟩)]
      · rw [pset_ne q1, rwB_ne q1, rwB_ne q1]
    rw [e2, e3, e1]
    exact ih (t + 1) (by omega)
def isM (R T C code : Nat) (M : pM) : pM := rwB R C code T (rwA R C code 0 M)
theorem isM_n : RWn M (isM R T C code M) := fun o i a b _ => by
  unfold isM
  rw [rwB_ne a, rwA_ne b]
theorem isM_78 {t : Nat} (ht : t < T) : isM R T C code M 78 t = trP M R C code t := by
  unfold isM rwB
  rw [if_pos ⟨rfl, ht⟩]
  unfold trP
  rw [rwA_ne (by decide)]
theorem isM_40 : isM R T C code M 60 40 = M 60 40 := by
  unfold isM
  rw [rwB_ne (by decide), rwA_ne (by decide)]
theorem m_isFine (hd : 2 ≤ d) (h : RWx M R T C) (hc : M 60 40 = (code : Int)) (hc2 : code < 2000000) : xF d 231 [.inr 62] M = rI (if fnB M R T C code then 1 else 0) (isM R T C code M) := by
  obtain ⟨D, rfl, hD⟩ := dsucc hd
  have e8 := m_if8 hD h hc2 C (Nat.le_refl C)
  have eA : rwA R C code C M = M := by
    funext o i
    unfold rwA
    rw [if_neg (fun z => by omega)]
  have eB : rwB R C code 0 (rwA R C code 0 M) = rwA R C code 0 M := by
    funext o i
    unfold rwB
    rw [if_neg (fun z => absurd z.2 (Nat.not_lt_zero i))]
  rw [eA, Nat.sub_self, Nat.pow_zero, Nat.div_one] at e8
  have e34 := m_if34 (D := D) (code := code) h ((code / R ^ C : Nat) : Int) T 0 (by omega)
  rw [eB] at e34
  have h' := RWx_of (isM_n (R := R) (T := T) (C := C) (code := code)) h
  rw [T_M_isFine, hc, h.2.2.2.2.2.1, e8, show (.inl 0 : pV) = .inl ((0 : Nat) : Int) from rfl, e34]
  have efr : ∀ r : Int, frF (isM R T C code M) (isM R T C code M 78) r T = frF M (trP M R C code) r T := fun r => frF_cg T (fun k => isM_n 61 k (by decide) (by decide) (by omega)) (fun k => isM_n 63 k (by decide) (by decide) (by omega)) (fun t ht => isM_78 ht)
  have key : ∀ m r, r + m = R → allTo (fun r => decide (le32 0 (frF M (trP M R C code) r T))) r = true → xE D 231 53 [.inr 62, .inl ((code / R ^ C : Nat) : Int), .inl (r : Int)] [] (isM R T C code M) = rI (if fnB M R T C code then 1 else 0) (isM R T C code M) := by
    intro m
    induction m with
    | zero =>
      intro r hr ha
      have hR := h.2.2.1
      have e : r = R := by omega
      subst e
      rw [L_M_isFine_53, h'.1, if_pos (by rw [le32_iff] <;> omega)]
      unfold fnB
      rw [ha]; rfl
    | succ m ih =>
      intro r hr ha
      have hR := h.2.2.1
      have e1 : ((r : Int) + 1) = ((r + 1 : Nat) : Int) := by omega
      rw [L_M_isFine_53, h'.1, if_neg (by rw [le32_iff] <;> omega), m_freeIn_78 hD h'.2.2.2.1 h'.2.2.2.2.1 (by omega), pbI_rI, efr]
      by_cases q : le32 0 (frF M (trP M R C code) r T)
      · rw [if_pos q, e1]
        exact ih (r + 1) (by omega) (by
          unfold allTo
          rw [ha, decide_eq_true q]; rfl)
      · rw [if_neg q]
        have : fnB M R T C code = false := by
          cases hb : fnB M R T C code with
          | false => rfl
          | true =>
            unfold fnB at hb
            have := allTo_iff.mp hb r (by omega)
            rw [decide_eq_false q] at this
            cases this
        rw [this]; rfl
  exact key R 0 (by omega) rfl
theorem gM_isM (hM : gM gAll M) (h1 : 1 ≤ R) (h6 : R ≤ 6) : gM gAll (isM R T C code M) := by
  intro o k hk
  unfold isM rwB
  split
  · rename_i q
    obtain ⟨rfl, -⟩ := q
    have := dg_lt (C := C) (code := code) h1 (rwA R C code 0 M 72 k).toNat
    rw [gAll_row (o := 78) (v := (0, -1, 5, 0, 0, 0)) (by decide +kernel) (by decide +kernel) (Nat.lt_of_lt_of_le hk (pL_le _))]
    refine Or.inl ⟨rfl, ?_, ?_⟩
    · show (-1 : Int) ≤ (dg R C code _ : Nat); omega
    · show ((dg R C code _ : Nat) : Int) ≤ 5; omega
  · unfold rwA
    split
    · rename_i q
      obtain ⟨rfl, -, -⟩ := q
      have := dg_lt (C := C) (code := code) h1 k
      rw [gAll_row (o := 79) (v := (0, -1, 5, 0, 0, 0)) (by decide +kernel) (by decide +kernel) (Nat.lt_of_lt_of_le hk (pL_le _))]
      refine Or.inl ⟨rfl, ?_, ?_⟩
      · show (-1 : Int) ≤ (dg R C code _ : Nat); omega
      · show ((dg R C code _ : Nat) : Int) ≤ 5; omega
    · exact hM o k hk
/-- what nextRow comes to, from a code on -/
def NRo (R T C W code : Nat) (M : pM) (o : Option pR) : Prop := ∃ M', gM gAll M' ∧ RWn M M' ∧ ((o = rI 0 M' ∧ (∀ c, code ≤ c → c < W → fnB M R T C c = false) ∧ M' 60 40 = ((max code W : Nat) : Int)) ∨ (o = rI 1 M' ∧ ∃ c1, code ≤ c1 ∧ c1 < W ∧ fnB M R T C c1 = true ∧ (∀ c, code ≤ c → c < c1 → fnB M R T C c = false) ∧ M' 60 40 = (c1 : Int) ∧ ∀ t, t < T → M' 78 t = trP M R C c1 t))
theorem m_nr6 (hD : 2 ≤ D) (hW : W ≤ 1000000) : ∀ m code M, W ≤ code + m → code ≤ 1000000 → RWx M R T C → gM gAll M → M 60 39 = (W : Int) → M 60 40 = (code : Int) → NRo R T C W code M (xE D 230 6 [.inr 62] [] M) := by
  intro m
  induction m with
  | zero =>
    intro code M hm hc h hM h39 h40
    refine ⟨M, hM, RWn_rfl, Or.inl ⟨?_, fun c h1 h2 => by omega, by rw [h40, Nat.max_eq_left (by omega)]⟩⟩
    rw [L_M_nextRow_6, h39, h40, if_pos (by rw [le32_iff] <;> omega)]
  | succ m ih =>
    intro code M hm hc h hM h39 h40
    by_cases q : W ≤ code
    · refine ⟨M, hM, RWn_rfl, Or.inl ⟨?_, fun c h1 h2 => by omega, by rw [h40, Nat.max_eq_left q]⟩⟩
      rw [L_M_nextRow_6, h39, h40, if_pos (by rw [le32_iff] <;> omega)]
    · have g1 := gM_isM (T := T) (C := C) (code := code) hM h.2.1 h.2.2.1
      have n1 := isM_n (R := R) (T := T) (C := C) (code := code) (M := M)
      rw [L_M_nextRow_6, h39, h40, if_neg (by rw [le32_iff] <;> omega), m_isFine hD h h40 (by omega), pbI_rI, ite01]
      cases hb : fnB M R T C code with
      | true =>
        refine ⟨_, g1, n1, Or.inr ⟨rfl, code, Nat.le_refl _, by omega, hb, fun c h1 h2 => by omega, by rw [isM_40]; exact h40, fun t ht => isM_78 ht⟩⟩
      | false =>
        rw [if_neg (by decide), isM_40, h40]
        have n2 : RWn M (pset (isM R T C code M) 60 40 ((code : Int) + 1)) := fun o i a b c => by
          unfold pset
          rw [if_neg c]
          exact n1 o i a b c
        obtain ⟨M', g, n, r⟩ := ih (code + 1) (pset (isM R T C code M) 60 40 ((code : Int) + 1)) (by omega) (by omega) (RWx_of n2 h) (gM_f g1 (lo := -1) (hi := 1000000) (by decide +kernel) (by omega) (by omega)) (by rw [n2 60 39 (by decide) (by decide) (by decide)]; exact h39) (by rw [pset_eq]; omega)
        refine ⟨M', g, RWn_tr n2 n, ?_⟩
        rcases r with ⟨r1, r2, r3⟩ | ⟨r1, c1, r2, r3, r4, r5, r6, r7⟩
        · refine Or.inl ⟨r1, fun c h1 h2 => ?_, ?_⟩
          · rcases Nat.lt_or_ge code c with y | y
            · rw [← fnB_of n2]; exact r2 c y h2
            · rw [show c = code by omega]; exact hb
          · rw [r3]; congr 1; omega
        · refine Or.inr ⟨r1, c1, by omega, r3, by rw [← fnB_of n2]; exact r4, fun c h1 h2 => ?_, r6, fun t ht => ?_⟩
          · rcases Nat.lt_or_ge code c with y | y
            · rw [← fnB_of n2]; exact r5 c y h2
            · rw [show c = code by omega]; exact hb
          · rw [r7 t ht]
            unfold trP
            rw [n2 72 t (by decide) (by decide) (by omega)]
theorem m_nextRow (hd : 3 ≤ d) (hW : W ≤ 1000000) (hc : code ≤ 1000000) (h : RWx M R T C) (hM : gM gAll M) (h39 : M 60 39 = (W : Int)) (h40 : M 60 40 = (code : Int) - 1) : NRo R T C W code M (xF d 230 [.inr 62] M) := by
  obtain ⟨D, rfl, hD⟩ := dsucc hd
  rw [T_M_nextRow, h40, show (code : Int) - 1 + 1 = (code : Int) by omega]
  have n2 : RWn M (pset M 60 40 (code : Int)) := fun o i a b c => by
    unfold pset
    rw [if_neg c]
  obtain ⟨M', g, n, r⟩ := m_nr6 hD hW W code (pset M 60 40 (code : Int)) (by omega) hc (RWx_of n2 h) (gM_f hM (lo := -1) (hi := 1000000) (by decide +kernel) (by omega) (by omega)) (by rw [pset_ne2 (by decide)]; exact h39) pset_eq
  refine ⟨M', g, RWn_tr n2 n, ?_⟩
  rcases r with ⟨r1, r2, r3⟩ | ⟨r1, c1, r2, r3, r4, r5, r6, r7⟩
  · exact Or.inl ⟨r1, fun c h1 h2 => by rw [← fnB_of n2]; exact r2 c h1 h2, r3⟩
  · exact Or.inr ⟨r1, c1, r2, r3, by rw [← fnB_of n2]; exact r4, fun c h1 h2 => by rw [← fnB_of n2]; exact r5 c h1 h2, r6, fun t ht => by
      rw [r7 t ht]
      unfold trP
      rw [n2 72 t (by decide) (by decide) (by omega)]⟩
end RW
end
