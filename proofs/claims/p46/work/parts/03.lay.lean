section
/-! the layout: every object of both systems has a number; what kind it is, how long, to which objects its fixed fields point -/
def pcl : List vw_C := [(RX0, TX0, 13), (RX1, TX1, 1), (RX2, TX2, 10), (RX3, TX3, 6), (RX4, TX4, 2), (RX5, TX5, 4), (RX6, TX6, 4), (RX7, TX7, 3), (RX8, TX8, 2), (RX9, TX9, 4), (RX10, TX10, 12), (RX11, TX11, 18), (RX12, TX12, 56)]
/-! tables as trees -/
def ra_ck {α : Type} (p : α → Bool) : Lean.RArray α → Bool
  | .leaf x => p x
  | .branch _ l r => ra_ck p l && ra_ck p r
theorem ra_all {α : Type} {p : α → Bool} : ∀ (t : Lean.RArray α), ra_ck p t = true → ∀ n, p (t.get n) = true
  | .leaf _, h, _ => h
  | .branch q l r, h, n => by
    have h := Bool.and_eq_true_iff.mp (show (ra_ck p l && ra_ck p r) = true from h)
    show p (Bool.rec (motive := fun _ => α) (l.get n) (r.get n) (Nat.ble q n)) = true
    cases Nat.ble q n
    · exact ra_all l h.1 n
    · exact ra_all r h.2 n
def ra_rs {α : Type} (m : Nat) : Lean.RArray α → Bool
  | .leaf _ => true
  | .branch q _ r => Nat.ble q m && ra_rs m r
def ra_la {α : Type} : Lean.RArray α → α
  | .leaf x => x
  | .branch _ _ r => ra_la r
theorem ra_end {α : Type} {m : Nat} : ∀ (t : Lean.RArray α), ra_rs m t = true → ∀ n, m ≤ n → t.get n = ra_la t
  | .leaf _, _, _, _ => rfl
  | .branch q l r, h, n, hn => by
    have h := Bool.and_eq_true_iff.mp (show (Nat.ble q m && ra_rs m r) = true from h)
    have e : Nat.ble q n = true := Nat.ble_eq_true_of_le (Nat.le_trans (Nat.le_of_ble_eq_true h.1) hn)
    show Bool.rec (motive := fun _ => α) (l.get n) (r.get n) (Nat.ble q n) = ra_la r
    rw [e]
    exact ra_end r h.2 n hn
def ra_P {α : Type} (P : Nat → Nat → α → Prop) : Nat → Nat → Lean.RArray α → Prop
  | lo, hi, .leaf x => P lo hi x
  | lo, hi, .branch q l r => ra_P P lo q l ∧ ra_P P q hi r
theorem ra_P_get {α : Type} {P : Nat → Nat → α → Prop} : ∀ (t : Lean.RArray α) (lo hi : Nat), ra_P P lo hi t → ∀ n, lo ≤ n → n < hi → ∃ a b, a ≤ n ∧ n < b ∧ P a b (t.get n)
  | .leaf _, lo, hi, h, n, h1, h2 => ⟨lo, hi, h1, h2, h⟩
  | .branch q l r, lo, hi, h, n, h1, h2 => by
    show ∃ a b, a ≤ n ∧ n < b ∧ P a b (Bool.rec (motive := fun _ => α) (l.get n) (r.get n) (Nat.ble q n))
    cases e : Nat.ble q n
    · exact ra_P_get l lo q h.1 n h1 (Nat.lt_of_not_le fun w => by rw [Nat.ble_eq_true_of_le w] at e; cases e)
    · exact ra_P_get r q hi h.2 n (Nat.le_of_ble_eq_true e) h2
def pOT : Lean.RArray (Nat × Nat × List Nat) := .branch 46 (.branch 23 (.branch 11 (.branch 5 (.branch 2 (.branch 1 (.leaf (11, 18, [1, 3, 4, 5, 7, 17, 27, 32, 39, 43, 48, 52, 58, 59, 0, 0, 0, 0])) (.leaf (8, 2, [2, 0]))) (.branch 3 (.leaf (100, 80, [])) (.branch 4 (.leaf (6, 4, [1, 0, 0, 0])) (.leaf (1, 1, [3]))))) (.branch 8 (.branch 6 (.leaf (4, 2, [6, 0])) (.branch 7 (.leaf (100, 12, [])) (.leaf (0, 13, [8, 9, 10, 11, 12, 13, 14, 15, 16, 0, 0, 0, 0])))) (.branch 9 (.leaf (100, 6, [])) (.branch 10 (.leaf (100, 36, [])) (.leaf (100, 10, [])))))) (.branch 17 (.branch 14 (.branch 12 (.leaf (100, 10, [])) (.branch 13 (.leaf (100, 10, [])) (.leaf (100, 10, [])))) (.branch 15 (.leaf (100, 8, [])) (.branch 16 (.leaf (100, 10, [])) (.leaf (100, 10, []))))) (.branch 20 (.branch 18 (.leaf (0, 13, [18, 19, 20, 21, 22, 23, 24, 25, 26, 0, 0, 0, 0])) (.branch 19 (.leaf (100, 6, [])) (.leaf (100, 36, [])))) (.branch 21 (.leaf (100, 10, [])) (.branch 22 (.leaf (100, 10, [])) (.leaf (100, 10, []))))))) (.branch 34 (.branch 28 (.branch 25 (.branch 24 (.leaf (100, 10, [])) (.leaf (100, 8, []))) (.branch 26 (.leaf (100, 10, [])) (.branch 27 (.leaf (100, 10, [])) (.leaf (7, 3, [28, 30, 31]))))) (.branch 31 (.branch 29 (.leaf (8, 2, [29, 0])) (.branch 30 (.leaf (100, 80, [])) (.leaf (6, 4, [28, 0, 0, 0])))) (.branch 32 (.leaf (100, 9, [])) (.branch 33 (.leaf (10, 12, [33, 34, 35, 36, 37, 38, 0, 0, 0, 0, 0, 0])) (.leaf (100, 6, [])))))) (.branch 40 (.branch 37 (.branch 35 (.leaf (100, 6, [])) (.branch 36 (.leaf (100, 10, [])) (.leaf (100, 10, [])))) (.branch 38 (.leaf (100, 60, [])) (.branch 39 (.leaf (100, 10, [])) (.leaf (5, 4, [40, 41, 42, 0]))))) (.branch 43 (.branch 41 (.leaf (100, 20, [])) (.branch 42 (.leaf (100, 20, [])) (.leaf (100, 20, [])))) (.branch 44 (.leaf (103, 2, [44, 46])) (.branch 45 (.leaf (3, 6, [45, 0, 0, 0, 0, 0])) (.leaf (100, 10, [])))))))) (.branch 69 (.branch 57 (.branch 51 (.branch 48 (.branch 47 (.leaf (3, 6, [47, 0, 0, 0, 0, 0])) (.leaf (100, 10, []))) (.branch 49 (.leaf (9, 4, [49, 50, 51, 0])) (.branch 50 (.leaf (102, 1024, [])) (.leaf (100, 10, []))))) (.branch 54 (.branch 52 (.leaf (100, 10, [])) (.branch 53 (.leaf (2, 10, [53, 54, 55, 56, 57, 0, 0, 0, 0, 0])) (.leaf (100, 300, [])))) (.branch 55 (.leaf (100, 360, [])) (.branch 56 (.leaf (100, 300, [])) (.leaf (100, 300, [])))))) (.branch 63 (.branch 60 (.branch 58 (.leaf (100, 300, [])) (.branch 59 (.leaf (100, 10, [])) (.leaf (100, 10, [])))) (.branch 61 (.leaf (12, 56, [0, 61, 62, 0, 63, 64, 65, 66, 0, 67, 0, 0, 0, 68, 0, 69, 0, 0, 0, 0, 0, 0, 0, 70, 71, 0, 0, 0, 72, 73, 0, 74, 75, 0, 76, 77, 78, 79, 0, 0, 0, 80, 81, 0, 0, 82, 83, 84, 0, 0, 85, 86, 0, 87, 88, 89])) (.branch 62 (.leaf (100, 6, [])) (.leaf (100, 36, []))))) (.branch 66 (.branch 64 (.leaf (100, 10, [])) (.branch 65 (.leaf (100, 10, [])) (.leaf (100, 10, [])))) (.branch 67 (.leaf (100, 10, [])) (.branch 68 (.leaf (100, 8, [])) (.leaf (101, 80, []))))))) (.branch 80 (.branch 74 (.branch 71 (.branch 70 (.leaf (100, 16, [])) (.leaf (100, 240, []))) (.branch 72 (.leaf (101, 40, [])) (.branch 73 (.leaf (100, 10, [])) (.leaf (100, 10, []))))) (.branch 77 (.branch 75 (.leaf (100, 6, [])) (.branch 76 (.leaf (100, 60, [])) (.leaf (100, 80, [])))) (.branch 78 (.leaf (100, 10, [])) (.branch 79 (.leaf (100, 10, [])) (.leaf (100, 10, [])))))) (.branch 86 (.branch 83 (.branch 81 (.leaf (100, 10, [])) (.branch 82 (.leaf (100, 10, [])) (.leaf (102, 1024, [])))) (.branch 84 (.leaf (100, 3010, [])) (.branch 85 (.leaf (100, 90601, [])) (.leaf (100, 301, []))))) (.branch 89 (.branch 87 (.leaf (100, 301, [])) (.branch 88 (.leaf (100, 24, [])) (.leaf (102, 2, [])))) (.branch 90 (.leaf (100, 2, [])) (.branch 91 (.leaf (105, 1, [])) (.leaf (104, 0, []))))))))
abbrev pN : Nat := 91
def pK (o : Nat) : Nat := (pOT.get o).1
def pL (o : Nat) : Nat := (pOT.get o).2.1
def pFr (o k : Nat) : Nat := (pOT.get o).2.2.getD k 0
def pFKL : List (List Nat) := [[2, 2, 2, 2, 2, 2, 2, 2, 2, 0, 0, 0, 0], [2], [2, 2, 2, 2, 2, 0, 0, 0, 0, 0], [2, 1, 0, 0, 0, 0], [2, 0], [2, 2, 2, 0], [2, 0, 0, 0], [2, 2, 2], [2, 0], [2, 2, 2, 0], [2, 2, 2, 2, 2, 2, 0, 0, 1, 1, 0, 0], [2, 2, 2, 2, 2, 2, 2, 2, 2, 2, 2, 2, 2, 2, 0, 0, 0, 0], [0, 2, 2, 0, 2, 2, 2, 2, 0, 2, 0, 0, 0, 2, 0, 2, 0, 0, 3, 0, 0, 0, 0, 2, 2, 0, 0, 0, 2, 2, 0, 2, 2, 0, 2, 2, 2, 2, 0, 0, 0, 2, 2, 0, 1, 2, 2, 2, 0, 0, 2, 2, 0, 2, 2, 2]]
def pFk (c k : Nat) : Nat := (pFKL.getD c []).getD k 4
def pArr : List Nat := [2, 6, 8, 9, 10, 11, 12, 13, 14, 15, 16, 18, 19, 20, 21, 22, 23, 24, 25, 26, 29, 31, 33, 34, 35, 36, 37, 38, 40, 41, 42, 43, 45, 47, 49, 50, 51, 53, 54, 55, 56, 57, 58, 59, 61, 62, 63, 64, 65, 66, 67, 68, 69, 70, 71, 72, 73, 74, 75, 76, 77, 78, 79, 80, 81, 82, 83, 84, 85, 86, 87, 88, 89, 90]
def pty (o : Nat) : FieldType := match pK o with | 100 => .int | 101 => .byte | 102 => .boolean | 105 => .long | _ => .object "SetsStayTogether$Kept"
theorem pArr_ok : ∀ o, o < pN → 100 ≤ pK o → o ∈ pArr := by decide +kernel
theorem pOT_end {o : Nat} (h : pN ≤ o) : pOT.get o = (104, 0, []) := ra_end pOT (by decide +kernel) o h
/-! the words that frames of the system carry along: those of the tables that are good anywhere -/
def pws : List Cond := lw_tbl.filter goodWord
theorem pmt1 {w : Cond} (j : Nat) (h : tables_1_1[j]? = some w) (g : goodWord w = true) : w ∈ pws := List.mem_filter.mpr ⟨List.mem_append_right _ (show w ∈ tables_1 from List.mem_append_left _ (List.mem_of_getElem? h)), g⟩
theorem pmt2 {w : Cond} (j : Nat) (h : tables_1_2[j]? = some w) (g : goodWord w = true) : w ∈ pws := List.mem_filter.mpr ⟨List.mem_append_right _ (show w ∈ tables_1 from List.mem_append_right _ (List.mem_append_left _ (List.mem_of_getElem? h))), g⟩
theorem pmt3 {w : Cond} (j : Nat) (h : tables_1_3[j]? = some w) (g : goodWord w = true) : w ∈ pws := List.mem_filter.mpr ⟨List.mem_append_right _ (show w ∈ tables_1 from List.mem_append_right _ (List.mem_append_right _ (List.mem_append_left _ (List.mem_of_getElem? h)))), g⟩
theorem pmt4 {w : Cond} (j : Nat) (h : tables_1_4[j]? = some w) (g : goodWord w = true) : w ∈ pws := List.mem_filter.mpr ⟨List.mem_append_right _ (show w ∈ tables_1 from List.mem_append_right _ (List.mem_append_right _ (List.mem_append_right _ (List.mem_append_left _ (List.mem_of_getElem? h))))), g⟩
theorem pmt5 {w : Cond} (j : Nat) (h : tables_1_5[j]? = some w) (g : goodWord w = true) : w ∈ pws := List.mem_filter.mpr ⟨List.mem_append_right _ (show w ∈ tables_1 from List.mem_append_right _ (List.mem_append_right _ (List.mem_append_right _ (List.mem_append_right _ (List.mem_append_left _ (List.mem_of_getElem? h)))))), g⟩
theorem pmt6 {w : Cond} (j : Nat) (h : tables_1_6[j]? = some w) (g : goodWord w = true) : w ∈ pws := List.mem_filter.mpr ⟨List.mem_append_right _ (show w ∈ tables_1 from List.mem_append_right _ (List.mem_append_right _ (List.mem_append_right _ (List.mem_append_right _ (List.mem_append_right _ (List.mem_append_left _ (List.mem_of_getElem? h))))))), g⟩
theorem pmt7 {w : Cond} (j : Nat) (h : tables_1_7[j]? = some w) (g : goodWord w = true) : w ∈ pws := List.mem_filter.mpr ⟨List.mem_append_right _ (show w ∈ tables_1 from List.mem_append_right _ (List.mem_append_right _ (List.mem_append_right _ (List.mem_append_right _ (List.mem_append_right _ (List.mem_append_right _ (List.mem_append_left _ (List.mem_of_getElem? h)))))))), g⟩
theorem pmt8 {w : Cond} (j : Nat) (h : tables_1_8[j]? = some w) (g : goodWord w = true) : w ∈ pws := List.mem_filter.mpr ⟨List.mem_append_right _ (show w ∈ tables_1 from List.mem_append_right _ (List.mem_append_right _ (List.mem_append_right _ (List.mem_append_right _ (List.mem_append_right _ (List.mem_append_right _ (List.mem_append_right _ (List.mem_append_left _ (List.mem_of_getElem? h))))))))), g⟩
theorem pmt9 {w : Cond} (j : Nat) (h : tables_1_9[j]? = some w) (g : goodWord w = true) : w ∈ pws := List.mem_filter.mpr ⟨List.mem_append_right _ (show w ∈ tables_1 from List.mem_append_right _ (List.mem_append_right _ (List.mem_append_right _ (List.mem_append_right _ (List.mem_append_right _ (List.mem_append_right _ (List.mem_append_right _ (List.mem_append_right _ (List.mem_of_getElem? h))))))))), g⟩
theorem pms {q : MethodName × Nat} (j : Nat) (h : lw_privs[j]? = some q) (g : goodWord (Cond.selects q.1.cls q.1 q.1) = true) : Cond.selects q.1.cls q.1 q.1 ∈ pws := List.mem_filter.mpr ⟨List.mem_append_left _ (List.mem_map.mpr ⟨q, List.mem_of_getElem? h, rfl⟩), g⟩
theorem pin0 : ∀ w ∈ u_ws RX0 TX0 13, w ∈ pws := by
  rw [show u_ws RX0 TX0 13 = ([.laysFinal RX0 "SetsStayTogether$House" "size" "[I", .laysFinal RX0 "SetsStayTogether$House" "door" "[I", .laysFinal RX0 "SetsStayTogether$House" "bulk" "[I", .laysFinal RX0 "SetsStayTogether$House" "girth" "[I", .laysFinal RX0 "SetsStayTogether$House" "weight" "[I", .laysFinal RX0 "SetsStayTogether$House" "where" "[I", .laysFinal RX0 "SetsStayTogether$House" "members" "[I", .laysFinal RX0 "SetsStayTogether$House" "clumpThings" "[I", .laysFinal RX0 "SetsStayTogether$House" "clumpOf" "[I", .lays RX0 "SetsStayTogether$House" "rooms" "I", .lays RX0 "SetsStayTogether$House" "things" "I", .lays RX0 "SetsStayTogether$House" "sets" "I", .lays RX0 "SetsStayTogether$House" "clumps" "I"] : List Cond) from rfl]
  exact List.forall_mem_cons.mpr ⟨pmt1 151 rfl rfl, List.forall_mem_cons.mpr ⟨pmt1 153 rfl rfl, List.forall_mem_cons.mpr ⟨pmt1 155 rfl rfl, List.forall_mem_cons.mpr ⟨pmt1 157 rfl rfl, List.forall_mem_cons.mpr ⟨pmt1 159 rfl rfl, List.forall_mem_cons.mpr ⟨pmt1 161 rfl rfl, List.forall_mem_cons.mpr ⟨pmt1 163 rfl rfl, List.forall_mem_cons.mpr ⟨pmt1 165 rfl rfl, List.forall_mem_cons.mpr ⟨pmt1 167 rfl rfl, List.forall_mem_cons.mpr ⟨pmt1 169 rfl rfl, List.forall_mem_cons.mpr ⟨pmt1 171 rfl rfl, List.forall_mem_cons.mpr ⟨pmt1 173 rfl rfl, List.forall_mem_cons.mpr ⟨pmt1 175 rfl rfl, fun _ h => absurd h List.not_mem_nil⟩⟩⟩⟩⟩⟩⟩⟩⟩⟩⟩⟩⟩
theorem pin1 : ∀ w ∈ u_ws RX1 TX1 1, w ∈ pws := by
  rw [show u_ws RX1 TX1 1 = ([.laysFinal RX1 "SetsStayTogether$HouseReader" "from" "LSetsStayTogether$Reader;"] : List Cond) from rfl]
  exact List.forall_mem_cons.mpr ⟨pmt1 81 rfl rfl, fun _ h => absurd h List.not_mem_nil⟩
theorem pin2 : ∀ w ∈ u_ws RX2 TX2 10, w ∈ pws := by
  rw [show u_ws RX2 TX2 10 = ([.laysFinal RX2 "SetsStayTogether$Journey" "list" "[I", .laysFinal RX2 "SetsStayTogether$Journey" "costs" "[I", .laysFinal RX2 "SetsStayTogether$Journey" "first" "[I", .laysFinal RX2 "SetsStayTogether$Journey" "nights" "[I", .laysFinal RX2 "SetsStayTogether$Journey" "total" "[I", .lays RX2 "SetsStayTogether$Journey" "many" "I", .lays RX2 "SetsStayTogether$Journey" "clumps" "I", .lays RX2 "SetsStayTogether$Journey" "target" "I", .lays RX2 "SetsStayTogether$Journey" "least" "I", .lays RX2 "SetsStayTogether$Journey" "next" "I"] : List Cond) from rfl]
  exact List.forall_mem_cons.mpr ⟨pmt2 99 rfl rfl, List.forall_mem_cons.mpr ⟨pmt2 101 rfl rfl, List.forall_mem_cons.mpr ⟨pmt2 103 rfl rfl, List.forall_mem_cons.mpr ⟨pmt2 105 rfl rfl, List.forall_mem_cons.mpr ⟨pmt2 107 rfl rfl, List.forall_mem_cons.mpr ⟨pmt2 109 rfl rfl, List.forall_mem_cons.mpr ⟨pmt2 111 rfl rfl, List.forall_mem_cons.mpr ⟨pmt2 113 rfl rfl, List.forall_mem_cons.mpr ⟨pmt2 115 rfl rfl, List.forall_mem_cons.mpr ⟨pmt2 117 rfl rfl, fun _ h => absurd h List.not_mem_nil⟩⟩⟩⟩⟩⟩⟩⟩⟩⟩
theorem pin3 : ∀ w ∈ u_ws RX3 TX3 6, w ∈ pws := by
  rw [show u_ws RX3 TX3 6 = ([.laysFinal RX3 "SetsStayTogether$Kept" "where" "[I", .lays RX3 "SetsStayTogether$Kept" "used" "Z", .lays RX3 "SetsStayTogether$Kept" "rooms" "I", .lays RX3 "SetsStayTogether$Kept" "things" "I", .lays RX3 "SetsStayTogether$Kept" "days" "I", .lays RX3 "SetsStayTogether$Kept" "carried" "I"] : List Cond) from rfl]
  exact List.forall_mem_cons.mpr ⟨pmt2 46 rfl rfl, List.forall_mem_cons.mpr ⟨pmt2 48 rfl rfl, List.forall_mem_cons.mpr ⟨pmt2 50 rfl rfl, List.forall_mem_cons.mpr ⟨pmt2 52 rfl rfl, List.forall_mem_cons.mpr ⟨pmt2 54 rfl rfl, List.forall_mem_cons.mpr ⟨pmt2 56 rfl rfl, fun _ h => absurd h List.not_mem_nil⟩⟩⟩⟩⟩⟩
theorem pin4 : ∀ w ∈ u_ws RX4 TX4 2, w ∈ pws := by
  rw [show u_ws RX4 TX4 2 = ([.laysFinal RX4 "SetsStayTogether$Numbers" "numbers" "[I", .lays RX4 "SetsStayTogether$Numbers" "many" "I"] : List Cond) from rfl]
  exact List.forall_mem_cons.mpr ⟨pmt1 94 rfl rfl, List.forall_mem_cons.mpr ⟨pmt1 96 rfl rfl, fun _ h => absurd h List.not_mem_nil⟩⟩
theorem pin5 : ∀ w ∈ u_ws RX5 TX5 4, w ∈ pws := by
  rw [show u_ws RX5 TX5 4 = ([.laysFinal RX5 "SetsStayTogether$Past" "thing" "[I", .laysFinal RX5 "SetsStayTogether$Past" "room" "[I", .laysFinal RX5 "SetsStayTogether$Past" "carried" "[I", .lays RX5 "SetsStayTogether$Past" "many" "I"] : List Cond) from rfl]
  exact List.forall_mem_cons.mpr ⟨pmt2 21 rfl rfl, List.forall_mem_cons.mpr ⟨pmt2 23 rfl rfl, List.forall_mem_cons.mpr ⟨pmt2 25 rfl rfl, List.forall_mem_cons.mpr ⟨pmt2 27 rfl rfl, fun _ h => absurd h List.not_mem_nil⟩⟩⟩⟩
theorem pin6 : ∀ w ∈ u_ws RX6 TX6 4, w ∈ pws := by
  rw [show u_ws RX6 TX6 4 = ([.laysFinal RX6 "SetsStayTogether$Reader" "text" "LSetsStayTogether$Text;", .lays RX6 "SetsStayTogether$Reader" "at" "I", .lays RX6 "SetsStayTogether$Reader" "stop" "I", .lays RX6 "SetsStayTogether$Reader" "bad" "I"] : List Cond) from rfl]
  exact List.forall_mem_cons.mpr ⟨pmt1 65 rfl rfl, List.forall_mem_cons.mpr ⟨pmt1 67 rfl rfl, List.forall_mem_cons.mpr ⟨pmt1 69 rfl rfl, List.forall_mem_cons.mpr ⟨pmt1 71 rfl rfl, fun _ h => absurd h List.not_mem_nil⟩⟩⟩⟩
theorem pin7 : ∀ w ∈ u_ws RX7 TX7 3, w ∈ pws := by
  rw [show u_ws RX7 TX7 3 = ([.laysFinal RX7 "SetsStayTogether$Rule" "signs" "LSetsStayTogether$Text;", .laysFinal RX7 "SetsStayTogether$Rule" "own" "LSetsStayTogether$Reader;", .laysFinal RX7 "SetsStayTogether$Rule" "values" "[I"] : List Cond) from rfl]
  exact List.forall_mem_cons.mpr ⟨pmt1 192 rfl rfl, List.forall_mem_cons.mpr ⟨pmt1 194 rfl rfl, List.forall_mem_cons.mpr ⟨pmt1 196 rfl rfl, fun _ h => absurd h List.not_mem_nil⟩⟩⟩
theorem pin8 : ∀ w ∈ u_ws RX8 TX8 2, w ∈ pws := by
  rw [show u_ws RX8 TX8 2 = ([.laysFinal RX8 "SetsStayTogether$Text" "signs" "[I", .lays RX8 "SetsStayTogether$Text" "length" "I"] : List Cond) from rfl]
  exact List.forall_mem_cons.mpr ⟨pmt1 45 rfl rfl, List.forall_mem_cons.mpr ⟨pmt1 47 rfl rfl, fun _ h => absurd h List.not_mem_nil⟩⟩
theorem pin9 : ∀ w ∈ u_ws RX9 TX9 4, w ∈ pws := by
  rw [show u_ws RX9 TX9 4 = ([.laysFinal RX9 "SetsStayTogether$Turns" "open" "[Z", .laysFinal RX9 "SetsStayTogether$Turns" "order" "[I", .laysFinal RX9 "SetsStayTogether$Turns" "place" "[I", .lays RX9 "SetsStayTogether$Turns" "many" "I"] : List Cond) from rfl]
  exact List.forall_mem_cons.mpr ⟨pmt2 71 rfl rfl, List.forall_mem_cons.mpr ⟨pmt2 73 rfl rfl, List.forall_mem_cons.mpr ⟨pmt2 75 rfl rfl, List.forall_mem_cons.mpr ⟨pmt2 77 rfl rfl, fun _ h => absurd h List.not_mem_nil⟩⟩⟩⟩
theorem pin10 : ∀ w ∈ u_ws RX10 TX10 12, w ∈ pws := by
  rw [show u_ws RX10 TX10 12 = ([.laysFinal RX10 "SetsStayTogether$Walk" "size" "[I", .laysFinal RX10 "SetsStayTogether$Walk" "load" "[I", .laysFinal RX10 "SetsStayTogether$Walk" "bulk" "[I", .laysFinal RX10 "SetsStayTogether$Walk" "place" "[I", .laysFinal RX10 "SetsStayTogether$Walk" "table" "[I", .laysFinal RX10 "SetsStayTogether$Walk" "chosen" "[I", .lays RX10 "SetsStayTogether$Walk" "rooms" "I", .lays RX10 "SetsStayTogether$Walk" "parts" "I", .lays RX10 "SetsStayTogether$Walk" "begun" "Z", .lays RX10 "SetsStayTogether$Walk" "over" "Z", .lays RX10 "SetsStayTogether$Walk" "value" "I", .lays RX10 "SetsStayTogether$Walk" "found" "I"] : List Cond) from rfl]
  exact List.forall_mem_cons.mpr ⟨pmt1 222 rfl rfl, List.forall_mem_cons.mpr ⟨pmt1 224 rfl rfl, List.forall_mem_cons.mpr ⟨pmt1 226 rfl rfl, List.forall_mem_cons.mpr ⟨pmt1 228 rfl rfl, List.forall_mem_cons.mpr ⟨pmt1 230 rfl rfl, List.forall_mem_cons.mpr ⟨pmt1 232 rfl rfl, List.forall_mem_cons.mpr ⟨pmt1 234 rfl rfl, List.forall_mem_cons.mpr ⟨pmt1 236 rfl rfl, List.forall_mem_cons.mpr ⟨pmt1 238 rfl rfl, List.forall_mem_cons.mpr ⟨pmt2 0 rfl rfl, List.forall_mem_cons.mpr ⟨pmt2 2 rfl rfl, List.forall_mem_cons.mpr ⟨pmt2 4 rfl rfl, fun _ h => absurd h List.not_mem_nil⟩⟩⟩⟩⟩⟩⟩⟩⟩⟩⟩⟩
theorem pin11 : ∀ w ∈ u_ws RX11 TX11 18, w ∈ pws := by
  rw [show u_ws RX11 TX11 18 = ([.laysFinal RX11 "SetsStayTogether" "text" "LSetsStayTogether$Text;", .laysFinal RX11 "SetsStayTogether" "reader" "LSetsStayTogether$Reader;", .laysFinal RX11 "SetsStayTogether" "lines" "LSetsStayTogether$HouseReader;", .laysFinal RX11 "SetsStayTogether" "answer" "LSetsStayTogether$Numbers;", .laysFinal RX11 "SetsStayTogether" "home" "LSetsStayTogether$House;", .laysFinal RX11 "SetsStayTogether" "draft" "LSetsStayTogether$House;", .laysFinal RX11 "SetsStayTogether" "law" "LSetsStayTogether$Rule;", .laysFinal RX11 "SetsStayTogether" "walk" "LSetsStayTogether$Walk;", .laysFinal RX11 "SetsStayTogether" "past" "LSetsStayTogether$Past;", .laysFinal RX11 "SetsStayTogether" "shelf" "[LSetsStayTogether$Kept;", .laysFinal RX11 "SetsStayTogether" "turns" "LSetsStayTogether$Turns;", .laysFinal RX11 "SetsStayTogether" "journey" "LSetsStayTogether$Journey;", .laysFinal RX11 "SetsStayTogether" "goal" "[I", .laysFinal RX11 "SetsStayTogether" "spare" "[I", .lays RX11 "SetsStayTogether" "goalThings" "I", .lays RX11 "SetsStayTogether" "days" "I", .lays RX11 "SetsStayTogether" "carried" "I", .lays RX11 "SetsStayTogether" "might" "I"] : List Cond) from rfl]
  exact List.forall_mem_cons.mpr ⟨pmt2 138 rfl rfl, List.forall_mem_cons.mpr ⟨pmt2 140 rfl rfl, List.forall_mem_cons.mpr ⟨pmt2 142 rfl rfl, List.forall_mem_cons.mpr ⟨pmt2 144 rfl rfl, List.forall_mem_cons.mpr ⟨pmt2 146 rfl rfl, List.forall_mem_cons.mpr ⟨pmt2 148 rfl rfl, List.forall_mem_cons.mpr ⟨pmt2 150 rfl rfl, List.forall_mem_cons.mpr ⟨pmt2 152 rfl rfl, List.forall_mem_cons.mpr ⟨pmt2 154 rfl rfl, List.forall_mem_cons.mpr ⟨pmt2 156 rfl rfl, List.forall_mem_cons.mpr ⟨pmt2 158 rfl rfl, List.forall_mem_cons.mpr ⟨pmt2 160 rfl rfl, List.forall_mem_cons.mpr ⟨pmt2 162 rfl rfl, List.forall_mem_cons.mpr ⟨pmt2 164 rfl rfl, List.forall_mem_cons.mpr ⟨pmt2 166 rfl rfl, List.forall_mem_cons.mpr ⟨pmt2 168 rfl rfl, List.forall_mem_cons.mpr ⟨pmt2 170 rfl rfl, List.forall_mem_cons.mpr ⟨pmt2 172 rfl rfl, fun _ h => absurd h List.not_mem_nil⟩⟩⟩⟩⟩⟩⟩⟩⟩⟩⟩⟩⟩⟩⟩⟩⟩⟩
theorem pin12 : ∀ w ∈ u_ws RX12 TX12 56, w ∈ pws := by
  rw [show u_ws RX12 TX12 56 = ([.lays RX12 "SetsStayTogetherModel" "rooms" "I", .laysFinal RX12 "SetsStayTogetherModel" "size" "[I", .laysFinal RX12 "SetsStayTogetherModel" "door" "[I", .lays RX12 "SetsStayTogetherModel" "things" "I", .laysFinal RX12 "SetsStayTogetherModel" "bulk" "[I", .laysFinal RX12 "SetsStayTogetherModel" "wide" "[I", .laysFinal RX12 "SetsStayTogetherModel" "weight" "[I", .laysFinal RX12 "SetsStayTogetherModel" "is" "[I", .lays RX12 "SetsStayTogetherModel" "sets" "I", .laysFinal RX12 "SetsStayTogetherModel" "setOf" "[I", .lays RX12 "SetsStayTogetherModel" "days" "I", .lays RX12 "SetsStayTogetherModel" "carried" "I", .lays RX12 "SetsStayTogetherModel" "strength" "I", .laysFinal RX12 "SetsStayTogetherModel" "text" "[B", .lays RX12 "SetsStayTogetherModel" "typed" "I", .laysFinal RX12 "SetsStayTogetherModel" "row" "[I", .lays RX12 "SetsStayTogetherModel" "rowMany" "I", .lays RX12 "SetsStayTogetherModel" "thrown" "I", .lays RX12 "SetsStayTogetherModel" "read" "[B", .lays RX12 "SetsStayTogetherModel" "length" "I", .lays RX12 "SetsStayTogetherModel" "top" "I", .lays RX12 "SetsStayTogetherModel" "at" "I", .lays RX12 "SetsStayTogetherModel" "wrong" "I", .laysFinal RX12 "SetsStayTogetherModel" "newDoors" "[I", .laysFinal RX12 "SetsStayTogetherModel" "rule" "[B", .lays RX12 "SetsStayTogetherModel" "ruleSize" "I", .lays RX12 "SetsStayTogetherModel" "askedThing" "I", .lays RX12 "SetsStayTogetherModel" "askedRoom" "I", .laysFinal RX12 "SetsStayTogetherModel" "clumpOf" "[I", .laysFinal RX12 "SetsStayTogetherModel" "inClump" "[I", .lays RX12 "SetsStayTogetherModel" "clumps" "I", .laysFinal RX12 "SetsStayTogetherModel" "far" "[I", .laysFinal RX12 "SetsStayTogetherModel" "undos" "[I", .lays RX12 "SetsStayTogetherModel" "undoMany" "I", .laysFinal RX12 "SetsStayTogetherModel" "told" "[I", .laysFinal RX12 "SetsStayTogetherModel" "was" "[I", .laysFinal RX12 "SetsStayTogetherModel" "tried" "[I", .laysFinal RX12 "SetsStayTogetherModel" "clumpIn" "[I", .lays RX12 "SetsStayTogetherModel" "sold" "I", .lays RX12 "SetsStayTogetherModel" "ways" "I", .lays RX12 "SetsStayTogetherModel" "code" "I", .laysFinal RX12 "SetsStayTogetherModel" "found" "[I", .laysFinal RX12 "SetsStayTogetherModel" "aim" "[I", .lays RX12 "SetsStayTogetherModel" "aimMany" "I", .lays RX12 "SetsStayTogetherModel" "isAimed" "Z", .laysFinal RX12 "SetsStayTogetherModel" "canCome" "[Z", .laysFinal RX12 "SetsStayTogetherModel" "rows" "[I", .laysFinal RX12 "SetsStayTogetherModel" "costs" "[I", .lays RX12 "SetsStayTogetherModel" "rowsMany" "I", .lays RX12 "SetsStayTogetherModel" "aimAt" "I", .laysFinal RX12 "SetsStayTogetherModel" "evenings" "[I", .laysFinal RX12 "SetsStayTogetherModel" "carriedBy" "[I", .lays RX12 "SetsStayTogetherModel" "came" "I", .laysFinal RX12 "SetsStayTogetherModel" "kept" "[I", .laysFinal RX12 "SetsStayTogetherModel" "isKept" "[Z", .laysFinal RX12 "SetsStayTogetherModel" "keptCame" "[I"] : List Cond) from rfl]
  exact List.forall_mem_cons.mpr ⟨pmt6 196 rfl rfl, List.forall_mem_cons.mpr ⟨pmt6 198 rfl rfl, List.forall_mem_cons.mpr ⟨pmt6 200 rfl rfl, List.forall_mem_cons.mpr ⟨pmt6 202 rfl rfl, List.forall_mem_cons.mpr ⟨pmt6 204 rfl rfl, List.forall_mem_cons.mpr ⟨pmt6 206 rfl rfl, List.forall_mem_cons.mpr ⟨pmt6 208 rfl rfl, List.forall_mem_cons.mpr ⟨pmt6 210 rfl rfl, List.forall_mem_cons.mpr ⟨pmt6 212 rfl rfl, List.forall_mem_cons.mpr ⟨pmt6 214 rfl rfl, List.forall_mem_cons.mpr ⟨pmt6 216 rfl rfl, List.forall_mem_cons.mpr ⟨pmt6 218 rfl rfl, List.forall_mem_cons.mpr ⟨pmt6 220 rfl rfl, List.forall_mem_cons.mpr ⟨pmt6 222 rfl rfl, List.forall_mem_cons.mpr ⟨pmt6 224 rfl rfl, List.forall_mem_cons.mpr ⟨pmt6 226 rfl rfl, List.forall_mem_cons.mpr ⟨pmt6 228 rfl rfl, List.forall_mem_cons.mpr ⟨pmt6 230 rfl rfl, List.forall_mem_cons.mpr ⟨pmt6 232 rfl rfl, List.forall_mem_cons.mpr ⟨pmt6 234 rfl rfl, List.forall_mem_cons.mpr ⟨pmt6 236 rfl rfl, List.forall_mem_cons.mpr ⟨pmt6 238 rfl rfl, List.forall_mem_cons.mpr ⟨pmt7 0 rfl rfl, List.forall_mem_cons.mpr ⟨pmt7 2 rfl rfl, List.forall_mem_cons.mpr ⟨pmt7 4 rfl rfl, List.forall_mem_cons.mpr ⟨pmt7 6 rfl rfl, List.forall_mem_cons.mpr ⟨pmt7 8 rfl rfl, List.forall_mem_cons.mpr ⟨pmt7 10 rfl rfl, List.forall_mem_cons.mpr ⟨pmt7 12 rfl rfl, List.forall_mem_cons.mpr ⟨pmt7 14 rfl rfl, List.forall_mem_cons.mpr ⟨pmt7 16 rfl rfl, List.forall_mem_cons.mpr ⟨pmt7 18 rfl rfl, List.forall_mem_cons.mpr ⟨pmt7 20 rfl rfl, List.forall_mem_cons.mpr ⟨pmt7 22 rfl rfl, List.forall_mem_cons.mpr ⟨pmt7 24 rfl rfl, List.forall_mem_cons.mpr ⟨pmt7 26 rfl rfl, List.forall_mem_cons.mpr ⟨pmt7 28 rfl rfl, List.forall_mem_cons.mpr ⟨pmt7 30 rfl rfl, List.forall_mem_cons.mpr ⟨pmt7 32 rfl rfl, List.forall_mem_cons.mpr ⟨pmt7 34 rfl rfl, List.forall_mem_cons.mpr ⟨pmt7 36 rfl rfl, List.forall_mem_cons.mpr ⟨pmt7 38 rfl rfl, List.forall_mem_cons.mpr ⟨pmt7 40 rfl rfl, List.forall_mem_cons.mpr ⟨pmt7 42 rfl rfl, List.forall_mem_cons.mpr ⟨pmt7 44 rfl rfl, List.forall_mem_cons.mpr ⟨pmt7 46 rfl rfl, List.forall_mem_cons.mpr ⟨pmt7 48 rfl rfl, List.forall_mem_cons.mpr ⟨pmt7 50 rfl rfl, List.forall_mem_cons.mpr ⟨pmt7 52 rfl rfl, List.forall_mem_cons.mpr ⟨pmt7 54 rfl rfl, List.forall_mem_cons.mpr ⟨pmt7 56 rfl rfl, List.forall_mem_cons.mpr ⟨pmt7 58 rfl rfl, List.forall_mem_cons.mpr ⟨pmt7 60 rfl rfl, List.forall_mem_cons.mpr ⟨pmt7 62 rfl rfl, List.forall_mem_cons.mpr ⟨pmt7 64 rfl rfl, List.forall_mem_cons.mpr ⟨pmt7 66 rfl rfl, fun _ h => absurd h List.not_mem_nil⟩⟩⟩⟩⟩⟩⟩⟩⟩⟩⟩⟩⟩⟩⟩⟩⟩⟩⟩⟩⟩⟩⟩⟩⟩⟩⟩⟩⟩⟩⟩⟩⟩⟩⟩⟩⟩⟩⟩⟩⟩⟩⟩⟩⟩⟩⟩⟩⟩⟩⟩⟩⟩⟩⟩⟩
def pnest : List (String × Nat × MethodName × String) := [(RX0, 39, yX11_copy, "SetsStayTogether"), (RX0, 85, yX11_has, "SetsStayTogether"), (RX0, 98, yX11_numberAt, "SetsStayTogether"), (RX2, 84, yX11_numberAt, "SetsStayTogether"), (RX3, 18, yX11_copy, "SetsStayTogether"), (RX8, 19, yX11_numberAt, "SetsStayTogether"), (RX8, 23, yX11_copy, "SetsStayTogether"), (RX9, 46, yX11_numberAt, "SetsStayTogether"), (RX9, 53, yX11_has, "SetsStayTogether"), (RX10, 54, yX11_copy, "SetsStayTogether"), (RX10, 61, yX11_has, "SetsStayTogether"), (RX10, 81, yX11_numberAt, "SetsStayTogether")]
def pNw (U : State) : Prop := ∀ q ∈ pnest, va_Nw (.methodLinkNest q.1 q.2.1 q.2.2.1 q.2.2.2) U
theorem pNw_warm {s U : State} (hW : s.WarmedH U.vm) (h : pNw s) : pNw U := fun q hq => va_Nw.warmM hW (h q hq)
end
section
/-! decoding by the bytes alone (by program) -/
section DEC
variable {cc : ByteArray} {pc p : Nat}
def bx (cc : ByteArray) (p : Nat) : Nat := if h : p < cc.size then cc[p].toNat else 256
abbrev dcD (a : Type) : Type := Jvm.ClassFile.Reader Jvm.ClassFile.DecodeError a
theorem bx_u1 {n : Nat} (h : bx cc p = n) (hn : n < 256) : (Jvm.ClassFile.Reader.u1 : dcD Nat) cc p = .ok (n, p + 1) := by
  unfold bx at h
  by_cases q : p < cc.size
  · rw [dif_pos q] at h
    have e : (Jvm.ClassFile.Reader.u1 : dcD Nat) cc p = (if h : p < cc.size then (do set (p + 1); Pure.pure cc[p].toNat : dcD Nat) else (throw (Jvm.ClassFile.HasTruncated.truncated p) : dcD Nat)) cc p := rfl
    rw [e, dif_pos q, h]
    rfl
  · rw [dif_neg q] at h
    omega
theorem bx_b1 {t : Type} {K : Nat → dcD t} {n : Nat} (h : bx cc p = n) (hn : n < 256) : (Bind.bind Jvm.ClassFile.Reader.u1 K : dcD t) cc p = K n cc (p + 1) := by
  have e : (Bind.bind Jvm.ClassFile.Reader.u1 K : dcD t) cc p = Except.bind ((Jvm.ClassFile.Reader.u1 : dcD Nat) cc p) (fun x => K x.1 cc x.2) := rfl
  rw [e, bx_u1 h hn]; rfl
theorem bx_u2 {a b : Nat} (h : bx cc p = a) (ha : a < 256) (h2 : bx cc (p + 1) = b) (hb : b < 256) : (Jvm.ClassFile.Reader.u2 : dcD Nat) cc p = .ok (a * 256 + b, p + 2) := by
  unfold Jvm.ClassFile.Reader.u2
  rw [bx_b1 h ha, bx_b1 h2 hb]; rfl
theorem bx_b2 {t : Type} {K : Nat → dcD t} {a b : Nat} (h : bx cc p = a) (ha : a < 256) (h2 : bx cc (p + 1) = b) (hb : b < 256) : (Bind.bind Jvm.ClassFile.Reader.u2 K : dcD t) cc p = K (a * 256 + b) cc (p + 2) := by
  have e : (Bind.bind Jvm.ClassFile.Reader.u2 K : dcD t) cc p = Except.bind ((Jvm.ClassFile.Reader.u2 : dcD Nat) cc p) (fun x => K x.1 cc x.2) := rfl
  rw [e, bx_u2 h ha h2 hb]; rfl
theorem bx_s1 {t : Type} {K : Int → dcD t} {n : Nat} (h : bx cc p = n) (hn : n < 256) : (Bind.bind Jvm.ClassFile.Reader.s1 K : dcD t) cc p = K (Jvm.ClassFile.Reader.signed 8 n) cc (p + 1) := by
  have e : (Bind.bind Jvm.ClassFile.Reader.s1 K : dcD t) cc p = Except.bind ((Jvm.ClassFile.Reader.u1 : dcD Nat) cc p) (fun x => K (Jvm.ClassFile.Reader.signed 8 x.1) cc x.2) := by
    show Except.bind (Except.bind ((Jvm.ClassFile.Reader.u1 : dcD Nat) cc p) (fun x => .ok (Jvm.ClassFile.Reader.signed 8 x.1, x.2))) (fun x => K x.1 cc x.2) = _
    cases (Jvm.ClassFile.Reader.u1 : dcD Nat) cc p <;> rfl
  rw [e, bx_u1 h hn]; rfl
theorem bx_s2 {t : Type} {K : Int → dcD t} {a b : Nat} (h : bx cc p = a) (ha : a < 256) (h2 : bx cc (p + 1) = b) (hb : b < 256) : (Bind.bind Jvm.ClassFile.Reader.s2 K : dcD t) cc p = K (Jvm.ClassFile.Reader.signed 16 (a * 256 + b)) cc (p + 2) := by
  have e : (Bind.bind Jvm.ClassFile.Reader.s2 K : dcD t) cc p = Except.bind ((Jvm.ClassFile.Reader.u2 : dcD Nat) cc p) (fun x => K (Jvm.ClassFile.Reader.signed 16 x.1) cc x.2) := by
    show Except.bind (Except.bind ((Jvm.ClassFile.Reader.u2 : dcD Nat) cc p) (fun x => .ok (Jvm.ClassFile.Reader.signed 16 x.1, x.2))) (fun x => K x.1 cc x.2) = _
    cases (Jvm.ClassFile.Reader.u2 : dcD Nat) cc p <;> rfl
  rw [e, bx_u2 h ha h2 hb]; rfl
theorem bx_d {x : UInt8} {l : List UInt8} (h : cc.data.toList.drop p = x :: l) : bx cc p = x.toNat ∧ cc.data.toList.drop (p + 1) = l := by
  have e : cc.data.toList[p]? = some x := by
    have := congrArg List.head? h
    rw [List.head?_drop] at this
    exact this
  obtain ⟨hp, e2⟩ := List.getElem?_eq_some_iff.mp e
  refine ⟨?_, ?_⟩
  · unfold bx
    rw [dif_pos (show p < cc.size from hp)]
    show (cc.data.toList[p]).toNat = x.toNat
    rw [e2]
  · rw [← List.drop_drop, h]; rfl
/-- what stands at a place, as a check -/
def bq0 (cc : ByteArray) (p k : Nat) : Bool := match cc.data.toList.drop p with
  | x :: _ => Nat.beq x.toNat k
  | _ => false
def bq1 (cc : ByteArray) (p k : Nat) (f : Nat → Bool) : Bool := match cc.data.toList.drop p with
  | x :: a :: _ => Nat.beq x.toNat k && f a.toNat
  | _ => false
def bq2 (cc : ByteArray) (p k : Nat) (f : Nat → Nat → Bool) : Bool := match cc.data.toList.drop p with
  | x :: a :: b :: _ => Nat.beq x.toNat k && f a.toNat b.toNat
  | _ => false
theorem bq0_of {k : Nat} (h : bq0 cc p k = true) : bx cc p = k := by
  unfold bq0 at h
  split at h
  · rename_i x l e
    rw [(bx_d e).1]; exact Nat.eq_of_beq_eq_true h
  · cases h
theorem bq1_of {k : Nat} {f : Nat → Bool} (h : bq1 cc p k f = true) : bx cc p = k ∧ bx cc (p + 1) < 256 ∧ f (bx cc (p + 1)) = true := by
  unfold bq1 at h
  split at h
  · rename_i x a l e
    rw [Bool.and_eq_true] at h
    obtain ⟨e1, e2⟩ := bx_d e
    obtain ⟨e3, e4⟩ := bx_d e2
    rw [e1, e3]
    exact ⟨Nat.eq_of_beq_eq_true h.1, a.toNat_lt, h.2⟩
  · cases h
theorem bq2_of {k : Nat} {f : Nat → Nat → Bool} (h : bq2 cc p k f = true) : bx cc p = k ∧ bx cc (p + 1) < 256 ∧ bx cc (p + 1 + 1) < 256 ∧ f (bx cc (p + 1)) (bx cc (p + 1 + 1)) = true := by
  unfold bq2 at h
  split at h
  · rename_i x a b l e
    rw [Bool.and_eq_true] at h
    obtain ⟨e1, e2⟩ := bx_d e
    obtain ⟨e3, e4⟩ := bx_d e2
    obtain ⟨e5, e6⟩ := bx_d e4
    rw [e1, e3, e5]
    exact ⟨Nat.eq_of_beq_eq_true h.1, a.toNat_lt, b.toNat_lt, h.2⟩
  · cases h
theorem dc_of {i : Jvm.ClassFile.Instr} {n : Nat} (h : Jvm.ClassFile.Decoder.instr pc cc pc = .ok (i, pc + n)) : decode cc pc = .ok (i, n) := by
  have e : decode cc pc = Except.bind (Jvm.ClassFile.Decoder.instr pc cc pc) (fun x => .ok (x.1, x.2 - pc)) := rfl
  rw [e, h]
  show Except.ok (i, pc + n - pc) = _
  rw [Nat.add_sub_cancel_left]
set_option maxRecDepth 100000 in
theorem dX_aaload (h : bq0 cc pc 50 = true) : decode cc pc = .ok (.aaload, 1) := by
  have h0 := bq0_of h
  refine dc_of ?_
  unfold Jvm.ClassFile.Decoder.instr
  rw [bx_b1 h0 (by decide)]
  rfl
set_option maxRecDepth 100000 in
theorem dX_aconst_null (h : bq0 cc pc 1 = true) : decode cc pc = .ok (.aconst_null, 1) := by
  have h0 := bq0_of h
  refine dc_of ?_
  unfold Jvm.ClassFile.Decoder.instr
  rw [bx_b1 h0 (by decide)]
  rfl
set_option maxRecDepth 100000 in
theorem dX_aload_0 (h : bq0 cc pc 42 = true) : decode cc pc = .ok (.aload_n 0, 1) := by
  have h0 := bq0_of h
  refine dc_of ?_
  unfold Jvm.ClassFile.Decoder.instr
  rw [bx_b1 h0 (by decide)]
  rfl
set_option maxRecDepth 100000 in
theorem dX_aload_1 (h : bq0 cc pc 43 = true) : decode cc pc = .ok (.aload_n 1, 1) := by
  have h0 := bq0_of h
  refine dc_of ?_
  unfold Jvm.ClassFile.Decoder.instr
  rw [bx_b1 h0 (by decide)]
  rfl
set_option maxRecDepth 100000 in
theorem dX_aload_2 (h : bq0 cc pc 44 = true) : decode cc pc = .ok (.aload_n 2, 1) := by
  have h0 := bq0_of h
  refine dc_of ?_
  unfold Jvm.ClassFile.Decoder.instr
  rw [bx_b1 h0 (by decide)]
  rfl
set_option maxRecDepth 100000 in
theorem dX_aload_3 (h : bq0 cc pc 45 = true) : decode cc pc = .ok (.aload_n 3, 1) := by
  have h0 := bq0_of h
  refine dc_of ?_
  unfold Jvm.ClassFile.Decoder.instr
  rw [bx_b1 h0 (by decide)]
  rfl
set_option maxRecDepth 100000 in
theorem dX_areturn (h : bq0 cc pc 176 = true) : decode cc pc = .ok (.areturn, 1) := by
  have h0 := bq0_of h
  refine dc_of ?_
  unfold Jvm.ClassFile.Decoder.instr
  rw [bx_b1 h0 (by decide)]
  rfl
set_option maxRecDepth 100000 in
theorem dX_arraylength (h : bq0 cc pc 190 = true) : decode cc pc = .ok (.arraylength, 1) := by
  have h0 := bq0_of h
  refine dc_of ?_
  unfold Jvm.ClassFile.Decoder.instr
  rw [bx_b1 h0 (by decide)]
  rfl
set_option maxRecDepth 100000 in
theorem dX_astore_1 (h : bq0 cc pc 76 = true) : decode cc pc = .ok (.astore_n 1, 1) := by
  have h0 := bq0_of h
  refine dc_of ?_
  unfold Jvm.ClassFile.Decoder.instr
  rw [bx_b1 h0 (by decide)]
  rfl
set_option maxRecDepth 100000 in
theorem dX_astore_2 (h : bq0 cc pc 77 = true) : decode cc pc = .ok (.astore_n 2, 1) := by
  have h0 := bq0_of h
  refine dc_of ?_
  unfold Jvm.ClassFile.Decoder.instr
  rw [bx_b1 h0 (by decide)]
  rfl
set_option maxRecDepth 100000 in
theorem dX_astore_3 (h : bq0 cc pc 78 = true) : decode cc pc = .ok (.astore_n 3, 1) := by
  have h0 := bq0_of h
  refine dc_of ?_
  unfold Jvm.ClassFile.Decoder.instr
  rw [bx_b1 h0 (by decide)]
  rfl
set_option maxRecDepth 100000 in
theorem dX_baload (h : bq0 cc pc 51 = true) : decode cc pc = .ok (.baload, 1) := by
  have h0 := bq0_of h
  refine dc_of ?_
  unfold Jvm.ClassFile.Decoder.instr
  rw [bx_b1 h0 (by decide)]
  rfl
set_option maxRecDepth 100000 in
theorem dX_bastore (h : bq0 cc pc 84 = true) : decode cc pc = .ok (.bastore, 1) := by
  have h0 := bq0_of h
  refine dc_of ?_
  unfold Jvm.ClassFile.Decoder.instr
  rw [bx_b1 h0 (by decide)]
  rfl
set_option maxRecDepth 100000 in
theorem dX_dup (h : bq0 cc pc 89 = true) : decode cc pc = .ok (.dup, 1) := by
  have h0 := bq0_of h
  refine dc_of ?_
  unfold Jvm.ClassFile.Decoder.instr
  rw [bx_b1 h0 (by decide)]
  rfl
set_option maxRecDepth 100000 in
theorem dX_dup2 (h : bq0 cc pc 92 = true) : decode cc pc = .ok (.dup2, 1) := by
  have h0 := bq0_of h
  refine dc_of ?_
  unfold Jvm.ClassFile.Decoder.instr
  rw [bx_b1 h0 (by decide)]
  rfl
set_option maxRecDepth 100000 in
theorem dX_dup_x1 (h : bq0 cc pc 90 = true) : decode cc pc = .ok (.dup_x1, 1) := by
  have h0 := bq0_of h
  refine dc_of ?_
  unfold Jvm.ClassFile.Decoder.instr
  rw [bx_b1 h0 (by decide)]
  rfl
set_option maxRecDepth 100000 in
theorem dX_i2b (h : bq0 cc pc 145 = true) : decode cc pc = .ok (.i2b, 1) := by
  have h0 := bq0_of h
  refine dc_of ?_
  unfold Jvm.ClassFile.Decoder.instr
  rw [bx_b1 h0 (by decide)]
  rfl
set_option maxRecDepth 100000 in
theorem dX_i2c (h : bq0 cc pc 146 = true) : decode cc pc = .ok (.i2c, 1) := by
  have h0 := bq0_of h
  refine dc_of ?_
  unfold Jvm.ClassFile.Decoder.instr
  rw [bx_b1 h0 (by decide)]
  rfl
set_option maxRecDepth 100000 in
theorem dX_i2s (h : bq0 cc pc 147 = true) : decode cc pc = .ok (.i2s, 1) := by
  have h0 := bq0_of h
  refine dc_of ?_
  unfold Jvm.ClassFile.Decoder.instr
  rw [bx_b1 h0 (by decide)]
  rfl
set_option maxRecDepth 100000 in
theorem dX_iadd (h : bq0 cc pc 96 = true) : decode cc pc = .ok (.iadd, 1) := by
  have h0 := bq0_of h
  refine dc_of ?_
  unfold Jvm.ClassFile.Decoder.instr
  rw [bx_b1 h0 (by decide)]
  rfl
set_option maxRecDepth 100000 in
theorem dX_iaload (h : bq0 cc pc 46 = true) : decode cc pc = .ok (.iaload, 1) := by
  have h0 := bq0_of h
  refine dc_of ?_
  unfold Jvm.ClassFile.Decoder.instr
  rw [bx_b1 h0 (by decide)]
  rfl
set_option maxRecDepth 100000 in
theorem dX_iand (h : bq0 cc pc 126 = true) : decode cc pc = .ok (.iand, 1) := by
  have h0 := bq0_of h
  refine dc_of ?_
  unfold Jvm.ClassFile.Decoder.instr
  rw [bx_b1 h0 (by decide)]
  rfl
set_option maxRecDepth 100000 in
theorem dX_iastore (h : bq0 cc pc 79 = true) : decode cc pc = .ok (.iastore, 1) := by
  have h0 := bq0_of h
  refine dc_of ?_
  unfold Jvm.ClassFile.Decoder.instr
  rw [bx_b1 h0 (by decide)]
  rfl
set_option maxRecDepth 100000 in
theorem dX_iconst_0 (h : bq0 cc pc 3 = true) : decode cc pc = .ok (.iconst 0, 1) := by
  have h0 := bq0_of h
  refine dc_of ?_
  unfold Jvm.ClassFile.Decoder.instr
  rw [bx_b1 h0 (by decide)]
  rfl
set_option maxRecDepth 100000 in
theorem dX_iconst_1 (h : bq0 cc pc 4 = true) : decode cc pc = .ok (.iconst 1, 1) := by
  have h0 := bq0_of h
  refine dc_of ?_
  unfold Jvm.ClassFile.Decoder.instr
  rw [bx_b1 h0 (by decide)]
  rfl
set_option maxRecDepth 100000 in
theorem dX_iconst_2 (h : bq0 cc pc 5 = true) : decode cc pc = .ok (.iconst 2, 1) := by
  have h0 := bq0_of h
  refine dc_of ?_
  unfold Jvm.ClassFile.Decoder.instr
  rw [bx_b1 h0 (by decide)]
  rfl
set_option maxRecDepth 100000 in
theorem dX_iconst_3 (h : bq0 cc pc 6 = true) : decode cc pc = .ok (.iconst 3, 1) := by
  have h0 := bq0_of h
  refine dc_of ?_
  unfold Jvm.ClassFile.Decoder.instr
  rw [bx_b1 h0 (by decide)]
  rfl
set_option maxRecDepth 100000 in
theorem dX_iconst_4 (h : bq0 cc pc 7 = true) : decode cc pc = .ok (.iconst 4, 1) := by
  have h0 := bq0_of h
  refine dc_of ?_
  unfold Jvm.ClassFile.Decoder.instr
  rw [bx_b1 h0 (by decide)]
  rfl
set_option maxRecDepth 100000 in
theorem dX_iconst_5 (h : bq0 cc pc 8 = true) : decode cc pc = .ok (.iconst 5, 1) := by
  have h0 := bq0_of h
  refine dc_of ?_
  unfold Jvm.ClassFile.Decoder.instr
  rw [bx_b1 h0 (by decide)]
  rfl
set_option maxRecDepth 100000 in
theorem dX_iconst_m1 (h : bq0 cc pc 2 = true) : decode cc pc = .ok (.iconst (-1), 1) := by
  have h0 := bq0_of h
  refine dc_of ?_
  unfold Jvm.ClassFile.Decoder.instr
  rw [bx_b1 h0 (by decide)]
  rfl
set_option maxRecDepth 100000 in
theorem dX_idiv (h : bq0 cc pc 108 = true) : decode cc pc = .ok (.idiv, 1) := by
  have h0 := bq0_of h
  refine dc_of ?_
  unfold Jvm.ClassFile.Decoder.instr
  rw [bx_b1 h0 (by decide)]
  rfl
set_option maxRecDepth 100000 in
theorem dX_iload_0 (h : bq0 cc pc 26 = true) : decode cc pc = .ok (.iload_n 0, 1) := by
  have h0 := bq0_of h
  refine dc_of ?_
  unfold Jvm.ClassFile.Decoder.instr
  rw [bx_b1 h0 (by decide)]
  rfl
set_option maxRecDepth 100000 in
theorem dX_iload_1 (h : bq0 cc pc 27 = true) : decode cc pc = .ok (.iload_n 1, 1) := by
  have h0 := bq0_of h
  refine dc_of ?_
  unfold Jvm.ClassFile.Decoder.instr
  rw [bx_b1 h0 (by decide)]
  rfl
set_option maxRecDepth 100000 in
theorem dX_iload_2 (h : bq0 cc pc 28 = true) : decode cc pc = .ok (.iload_n 2, 1) := by
  have h0 := bq0_of h
  refine dc_of ?_
  unfold Jvm.ClassFile.Decoder.instr
  rw [bx_b1 h0 (by decide)]
  rfl
set_option maxRecDepth 100000 in
theorem dX_iload_3 (h : bq0 cc pc 29 = true) : decode cc pc = .ok (.iload_n 3, 1) := by
  have h0 := bq0_of h
  refine dc_of ?_
  unfold Jvm.ClassFile.Decoder.instr
  rw [bx_b1 h0 (by decide)]
  rfl
set_option maxRecDepth 100000 in
theorem dX_imul (h : bq0 cc pc 104 = true) : decode cc pc = .ok (.imul, 1) := by
  have h0 := bq0_of h
  refine dc_of ?_
  unfold Jvm.ClassFile.Decoder.instr
  rw [bx_b1 h0 (by decide)]
  rfl
set_option maxRecDepth 100000 in
theorem dX_ineg (h : bq0 cc pc 116 = true) : decode cc pc = .ok (.ineg, 1) := by
  have h0 := bq0_of h
  refine dc_of ?_
  unfold Jvm.ClassFile.Decoder.instr
  rw [bx_b1 h0 (by decide)]
  rfl
set_option maxRecDepth 100000 in
theorem dX_ior (h : bq0 cc pc 128 = true) : decode cc pc = .ok (.ior, 1) := by
  have h0 := bq0_of h
  refine dc_of ?_
  unfold Jvm.ClassFile.Decoder.instr
  rw [bx_b1 h0 (by decide)]
  rfl
set_option maxRecDepth 100000 in
theorem dX_irem (h : bq0 cc pc 112 = true) : decode cc pc = .ok (.irem, 1) := by
  have h0 := bq0_of h
  refine dc_of ?_
  unfold Jvm.ClassFile.Decoder.instr
  rw [bx_b1 h0 (by decide)]
  rfl
set_option maxRecDepth 100000 in
theorem dX_ireturn (h : bq0 cc pc 172 = true) : decode cc pc = .ok (.ireturn, 1) := by
  have h0 := bq0_of h
  refine dc_of ?_
  unfold Jvm.ClassFile.Decoder.instr
  rw [bx_b1 h0 (by decide)]
  rfl
set_option maxRecDepth 100000 in
theorem dX_ishl (h : bq0 cc pc 120 = true) : decode cc pc = .ok (.ishl, 1) := by
  have h0 := bq0_of h
  refine dc_of ?_
  unfold Jvm.ClassFile.Decoder.instr
  rw [bx_b1 h0 (by decide)]
  rfl
set_option maxRecDepth 100000 in
theorem dX_ishr (h : bq0 cc pc 122 = true) : decode cc pc = .ok (.ishr, 1) := by
  have h0 := bq0_of h
  refine dc_of ?_
  unfold Jvm.ClassFile.Decoder.instr
  rw [bx_b1 h0 (by decide)]
  rfl
set_option maxRecDepth 100000 in
theorem dX_istore_0 (h : bq0 cc pc 59 = true) : decode cc pc = .ok (.istore_n 0, 1) := by
  have h0 := bq0_of h
  refine dc_of ?_
  unfold Jvm.ClassFile.Decoder.instr
  rw [bx_b1 h0 (by decide)]
  rfl
set_option maxRecDepth 100000 in
theorem dX_istore_1 (h : bq0 cc pc 60 = true) : decode cc pc = .ok (.istore_n 1, 1) := by
  have h0 := bq0_of h
  refine dc_of ?_
  unfold Jvm.ClassFile.Decoder.instr
  rw [bx_b1 h0 (by decide)]
  rfl
set_option maxRecDepth 100000 in
theorem dX_istore_2 (h : bq0 cc pc 61 = true) : decode cc pc = .ok (.istore_n 2, 1) := by
  have h0 := bq0_of h
  refine dc_of ?_
  unfold Jvm.ClassFile.Decoder.instr
  rw [bx_b1 h0 (by decide)]
  rfl
set_option maxRecDepth 100000 in
theorem dX_istore_3 (h : bq0 cc pc 62 = true) : decode cc pc = .ok (.istore_n 3, 1) := by
  have h0 := bq0_of h
  refine dc_of ?_
  unfold Jvm.ClassFile.Decoder.instr
  rw [bx_b1 h0 (by decide)]
  rfl
set_option maxRecDepth 100000 in
theorem dX_isub (h : bq0 cc pc 100 = true) : decode cc pc = .ok (.isub, 1) := by
  have h0 := bq0_of h
  refine dc_of ?_
  unfold Jvm.ClassFile.Decoder.instr
  rw [bx_b1 h0 (by decide)]
  rfl
set_option maxRecDepth 100000 in
theorem dX_iushr (h : bq0 cc pc 124 = true) : decode cc pc = .ok (.iushr, 1) := by
  have h0 := bq0_of h
  refine dc_of ?_
  unfold Jvm.ClassFile.Decoder.instr
  rw [bx_b1 h0 (by decide)]
  rfl
set_option maxRecDepth 100000 in
theorem dX_ixor (h : bq0 cc pc 130 = true) : decode cc pc = .ok (.ixor, 1) := by
  have h0 := bq0_of h
  refine dc_of ?_
  unfold Jvm.ClassFile.Decoder.instr
  rw [bx_b1 h0 (by decide)]
  rfl
set_option maxRecDepth 100000 in
theorem dX_pop (h : bq0 cc pc 87 = true) : decode cc pc = .ok (.pop, 1) := by
  have h0 := bq0_of h
  refine dc_of ?_
  unfold Jvm.ClassFile.Decoder.instr
  rw [bx_b1 h0 (by decide)]
  rfl
set_option maxRecDepth 100000 in
theorem dX_return (h : bq0 cc pc 177 = true) : decode cc pc = .ok (.return_, 1) := by
  have h0 := bq0_of h
  refine dc_of ?_
  unfold Jvm.ClassFile.Decoder.instr
  rw [bx_b1 h0 (by decide)]
  rfl
set_option maxRecDepth 100000 in
theorem dX_iload {n : Nat} (h : bq1 cc pc 21 (fun a => Nat.beq a n) = true) : decode cc pc = .ok (.iload n, 2) := by
  obtain ⟨h0, h1, h2⟩ := bq1_of h
  have h2 := Nat.eq_of_beq_eq_true h2
  subst h2
  refine dc_of ?_
  unfold Jvm.ClassFile.Decoder.instr
  rw [bx_b1 h0 (by decide)]
  exact (bx_b1 (K := fun x => Pure.pure (Jvm.ClassFile.Instr.iload x)) rfl h1).trans rfl
set_option maxRecDepth 100000 in
theorem dX_istore {n : Nat} (h : bq1 cc pc 54 (fun a => Nat.beq a n) = true) : decode cc pc = .ok (.istore n, 2) := by
  obtain ⟨h0, h1, h2⟩ := bq1_of h
  have h2 := Nat.eq_of_beq_eq_true h2
  subst h2
  refine dc_of ?_
  unfold Jvm.ClassFile.Decoder.instr
  rw [bx_b1 h0 (by decide)]
  exact (bx_b1 (K := fun x => Pure.pure (Jvm.ClassFile.Instr.istore x)) rfl h1).trans rfl
set_option maxRecDepth 100000 in
theorem dX_ldc {n : Nat} (h : bq1 cc pc 18 (fun a => Nat.beq a n) = true) : decode cc pc = .ok (.ldc n, 2) := by
  obtain ⟨h0, h1, h2⟩ := bq1_of h
  have h2 := Nat.eq_of_beq_eq_true h2
  subst h2
  refine dc_of ?_
  unfold Jvm.ClassFile.Decoder.instr
  rw [bx_b1 h0 (by decide)]
  exact (bx_b1 (K := fun x => Pure.pure (Jvm.ClassFile.Instr.ldc x)) rfl h1).trans rfl
set_option maxRecDepth 100000 in
theorem dX_bipush {n : Int} (h : bq1 cc pc 16 (fun a => decide (Jvm.ClassFile.Reader.signed 8 a = n)) = true) : decode cc pc = .ok (.bipush n, 2) := by
  obtain ⟨h0, h1, h2⟩ := bq1_of h
  have h2 := of_decide_eq_true h2
  subst h2
  refine dc_of ?_
  unfold Jvm.ClassFile.Decoder.instr
  rw [bx_b1 h0 (by decide)]
  exact (bx_s1 (K := fun x => Pure.pure (Jvm.ClassFile.Instr.bipush x)) rfl h1).trans rfl
set_option maxRecDepth 100000 in
theorem dX_getfield {n : Nat} (h : bq2 cc pc 180 (fun a b => Nat.beq (a * 256 + b) n) = true) : decode cc pc = .ok (.getfield n, 3) := by
  obtain ⟨h0, h1, h2, h3⟩ := bq2_of h
  have h3 := Nat.eq_of_beq_eq_true h3
  subst h3
  refine dc_of ?_
  unfold Jvm.ClassFile.Decoder.instr
  rw [bx_b1 h0 (by decide)]
  exact (bx_b2 (K := fun x => Pure.pure (Jvm.ClassFile.Instr.getfield x)) rfl h1 rfl h2).trans rfl
set_option maxRecDepth 100000 in
theorem dX_getstatic {n : Nat} (h : bq2 cc pc 178 (fun a b => Nat.beq (a * 256 + b) n) = true) : decode cc pc = .ok (.getstatic n, 3) := by
  obtain ⟨h0, h1, h2, h3⟩ := bq2_of h
  have h3 := Nat.eq_of_beq_eq_true h3
  subst h3
  refine dc_of ?_
  unfold Jvm.ClassFile.Decoder.instr
  rw [bx_b1 h0 (by decide)]
  exact (bx_b2 (K := fun x => Pure.pure (Jvm.ClassFile.Instr.getstatic x)) rfl h1 rfl h2).trans rfl
set_option maxRecDepth 100000 in
theorem dX_invokespecial {n : Nat} (h : bq2 cc pc 183 (fun a b => Nat.beq (a * 256 + b) n) = true) : decode cc pc = .ok (.invokespecial n, 3) := by
  obtain ⟨h0, h1, h2, h3⟩ := bq2_of h
  have h3 := Nat.eq_of_beq_eq_true h3
  subst h3
  refine dc_of ?_
  unfold Jvm.ClassFile.Decoder.instr
  rw [bx_b1 h0 (by decide)]
  exact (bx_b2 (K := fun x => Pure.pure (Jvm.ClassFile.Instr.invokespecial x)) rfl h1 rfl h2).trans rfl
set_option maxRecDepth 100000 in
theorem dX_invokestatic {n : Nat} (h : bq2 cc pc 184 (fun a b => Nat.beq (a * 256 + b) n) = true) : decode cc pc = .ok (.invokestatic n, 3) := by
  obtain ⟨h0, h1, h2, h3⟩ := bq2_of h
  have h3 := Nat.eq_of_beq_eq_true h3
  subst h3
  refine dc_of ?_
  unfold Jvm.ClassFile.Decoder.instr
  rw [bx_b1 h0 (by decide)]
  exact (bx_b2 (K := fun x => Pure.pure (Jvm.ClassFile.Instr.invokestatic x)) rfl h1 rfl h2).trans rfl
set_option maxRecDepth 100000 in
theorem dX_invokevirtual {n : Nat} (h : bq2 cc pc 182 (fun a b => Nat.beq (a * 256 + b) n) = true) : decode cc pc = .ok (.invokevirtual n, 3) := by
  obtain ⟨h0, h1, h2, h3⟩ := bq2_of h
  have h3 := Nat.eq_of_beq_eq_true h3
  subst h3
  refine dc_of ?_
  unfold Jvm.ClassFile.Decoder.instr
  rw [bx_b1 h0 (by decide)]
  exact (bx_b2 (K := fun x => Pure.pure (Jvm.ClassFile.Instr.invokevirtual x)) rfl h1 rfl h2).trans rfl
set_option maxRecDepth 100000 in
theorem dX_ldc_w {n : Nat} (h : bq2 cc pc 19 (fun a b => Nat.beq (a * 256 + b) n) = true) : decode cc pc = .ok (.ldc_w n, 3) := by
  obtain ⟨h0, h1, h2, h3⟩ := bq2_of h
  have h3 := Nat.eq_of_beq_eq_true h3
  subst h3
  refine dc_of ?_
  unfold Jvm.ClassFile.Decoder.instr
  rw [bx_b1 h0 (by decide)]
  exact (bx_b2 (K := fun x => Pure.pure (Jvm.ClassFile.Instr.ldc_w x)) rfl h1 rfl h2).trans rfl
set_option maxRecDepth 100000 in
theorem dX_new {n : Nat} (h : bq2 cc pc 187 (fun a b => Nat.beq (a * 256 + b) n) = true) : decode cc pc = .ok (.new n, 3) := by
  obtain ⟨h0, h1, h2, h3⟩ := bq2_of h
  have h3 := Nat.eq_of_beq_eq_true h3
  subst h3
  refine dc_of ?_
  unfold Jvm.ClassFile.Decoder.instr
  rw [bx_b1 h0 (by decide)]
  exact (bx_b2 (K := fun x => Pure.pure (Jvm.ClassFile.Instr.new x)) rfl h1 rfl h2).trans rfl
set_option maxRecDepth 100000 in
theorem dX_putfield {n : Nat} (h : bq2 cc pc 181 (fun a b => Nat.beq (a * 256 + b) n) = true) : decode cc pc = .ok (.putfield n, 3) := by
  obtain ⟨h0, h1, h2, h3⟩ := bq2_of h
  have h3 := Nat.eq_of_beq_eq_true h3
  subst h3
  refine dc_of ?_
  unfold Jvm.ClassFile.Decoder.instr
  rw [bx_b1 h0 (by decide)]
  exact (bx_b2 (K := fun x => Pure.pure (Jvm.ClassFile.Instr.putfield x)) rfl h1 rfl h2).trans rfl
set_option maxRecDepth 100000 in
theorem dX_goto {n : Int} (h : bq2 cc pc 167 (fun a b => decide (Jvm.ClassFile.Reader.signed 16 (a * 256 + b) = n)) = true) : decode cc pc = .ok (.goto n, 3) := by
  obtain ⟨h0, h1, h2, h3⟩ := bq2_of h
  have h3 := of_decide_eq_true h3
  subst h3
  refine dc_of ?_
  unfold Jvm.ClassFile.Decoder.instr
  rw [bx_b1 h0 (by decide)]
  exact (bx_s2 (K := fun x => Pure.pure (Jvm.ClassFile.Instr.goto x)) rfl h1 rfl h2).trans rfl
set_option maxRecDepth 100000 in
theorem dX_if_icmpeq {n : Int} (h : bq2 cc pc 159 (fun a b => decide (Jvm.ClassFile.Reader.signed 16 (a * 256 + b) = n)) = true) : decode cc pc = .ok (.if_icmp .eq n, 3) := by
  obtain ⟨h0, h1, h2, h3⟩ := bq2_of h
  have h3 := of_decide_eq_true h3
  subst h3
  refine dc_of ?_
  unfold Jvm.ClassFile.Decoder.instr
  rw [bx_b1 h0 (by decide)]
  exact (bx_s2 (K := fun x => Pure.pure (Jvm.ClassFile.Instr.if_icmp .eq x)) rfl h1 rfl h2).trans rfl
set_option maxRecDepth 100000 in
theorem dX_if_icmpge {n : Int} (h : bq2 cc pc 162 (fun a b => decide (Jvm.ClassFile.Reader.signed 16 (a * 256 + b) = n)) = true) : decode cc pc = .ok (.if_icmp .ge n, 3) := by
  obtain ⟨h0, h1, h2, h3⟩ := bq2_of h
  have h3 := of_decide_eq_true h3
  subst h3
  refine dc_of ?_
  unfold Jvm.ClassFile.Decoder.instr
  rw [bx_b1 h0 (by decide)]
  exact (bx_s2 (K := fun x => Pure.pure (Jvm.ClassFile.Instr.if_icmp .ge x)) rfl h1 rfl h2).trans rfl
set_option maxRecDepth 100000 in
theorem dX_if_icmpgt {n : Int} (h : bq2 cc pc 163 (fun a b => decide (Jvm.ClassFile.Reader.signed 16 (a * 256 + b) = n)) = true) : decode cc pc = .ok (.if_icmp .gt n, 3) := by
  obtain ⟨h0, h1, h2, h3⟩ := bq2_of h
  have h3 := of_decide_eq_true h3
  subst h3
  refine dc_of ?_
  unfold Jvm.ClassFile.Decoder.instr
  rw [bx_b1 h0 (by decide)]
  exact (bx_s2 (K := fun x => Pure.pure (Jvm.ClassFile.Instr.if_icmp .gt x)) rfl h1 rfl h2).trans rfl
set_option maxRecDepth 100000 in
theorem dX_if_icmple {n : Int} (h : bq2 cc pc 164 (fun a b => decide (Jvm.ClassFile.Reader.signed 16 (a * 256 + b) = n)) = true) : decode cc pc = .ok (.if_icmp .le n, 3) := by
  obtain ⟨h0, h1, h2, h3⟩ := bq2_of h
  have h3 := of_decide_eq_true h3
  subst h3
  refine dc_of ?_
  unfold Jvm.ClassFile.Decoder.instr
  rw [bx_b1 h0 (by decide)]
  exact (bx_s2 (K := fun x => Pure.pure (Jvm.ClassFile.Instr.if_icmp .le x)) rfl h1 rfl h2).trans rfl
set_option maxRecDepth 100000 in
theorem dX_if_icmplt {n : Int} (h : bq2 cc pc 161 (fun a b => decide (Jvm.ClassFile.Reader.signed 16 (a * 256 + b) = n)) = true) : decode cc pc = .ok (.if_icmp .lt n, 3) := by
  obtain ⟨h0, h1, h2, h3⟩ := bq2_of h
  have h3 := of_decide_eq_true h3
  subst h3
  refine dc_of ?_
  unfold Jvm.ClassFile.Decoder.instr
  rw [bx_b1 h0 (by decide)]
  exact (bx_s2 (K := fun x => Pure.pure (Jvm.ClassFile.Instr.if_icmp .lt x)) rfl h1 rfl h2).trans rfl
set_option maxRecDepth 100000 in
theorem dX_if_icmpne {n : Int} (h : bq2 cc pc 160 (fun a b => decide (Jvm.ClassFile.Reader.signed 16 (a * 256 + b) = n)) = true) : decode cc pc = .ok (.if_icmp .ne n, 3) := by
  obtain ⟨h0, h1, h2, h3⟩ := bq2_of h
  have h3 := of_decide_eq_true h3
  subst h3
  refine dc_of ?_
  unfold Jvm.ClassFile.Decoder.instr
  rw [bx_b1 h0 (by decide)]
  exact (bx_s2 (K := fun x => Pure.pure (Jvm.ClassFile.Instr.if_icmp .ne x)) rfl h1 rfl h2).trans rfl
set_option maxRecDepth 100000 in
theorem dX_ifeq {n : Int} (h : bq2 cc pc 153 (fun a b => decide (Jvm.ClassFile.Reader.signed 16 (a * 256 + b) = n)) = true) : decode cc pc = .ok (.ifCond .eq n, 3) := by
  obtain ⟨h0, h1, h2, h3⟩ := bq2_of h
  have h3 := of_decide_eq_true h3
  subst h3
  refine dc_of ?_
  unfold Jvm.ClassFile.Decoder.instr
  rw [bx_b1 h0 (by decide)]
  exact (bx_s2 (K := fun x => Pure.pure (Jvm.ClassFile.Instr.ifCond .eq x)) rfl h1 rfl h2).trans rfl
set_option maxRecDepth 100000 in
theorem dX_ifge {n : Int} (h : bq2 cc pc 156 (fun a b => decide (Jvm.ClassFile.Reader.signed 16 (a * 256 + b) = n)) = true) : decode cc pc = .ok (.ifCond .ge n, 3) := by
  obtain ⟨h0, h1, h2, h3⟩ := bq2_of h
  have h3 := of_decide_eq_true h3
  subst h3
  refine dc_of ?_
  unfold Jvm.ClassFile.Decoder.instr
  rw [bx_b1 h0 (by decide)]
  exact (bx_s2 (K := fun x => Pure.pure (Jvm.ClassFile.Instr.ifCond .ge x)) rfl h1 rfl h2).trans rfl
set_option maxRecDepth 100000 in
theorem dX_ifgt {n : Int} (h : bq2 cc pc 157 (fun a b => decide (Jvm.ClassFile.Reader.signed 16 (a * 256 + b) = n)) = true) : decode cc pc = .ok (.ifCond .gt n, 3) := by
  obtain ⟨h0, h1, h2, h3⟩ := bq2_of h
  have h3 := of_decide_eq_true h3
  subst h3
  refine dc_of ?_
  unfold Jvm.ClassFile.Decoder.instr
  rw [bx_b1 h0 (by decide)]
  exact (bx_s2 (K := fun x => Pure.pure (Jvm.ClassFile.Instr.ifCond .gt x)) rfl h1 rfl h2).trans rfl
set_option maxRecDepth 100000 in
theorem dX_ifle {n : Int} (h : bq2 cc pc 158 (fun a b => decide (Jvm.ClassFile.Reader.signed 16 (a * 256 + b) = n)) = true) : decode cc pc = .ok (.ifCond .le n, 3) := by
  obtain ⟨h0, h1, h2, h3⟩ := bq2_of h
  have h3 := of_decide_eq_true h3
  subst h3
  refine dc_of ?_
  unfold Jvm.ClassFile.Decoder.instr
  rw [bx_b1 h0 (by decide)]
  exact (bx_s2 (K := fun x => Pure.pure (Jvm.ClassFile.Instr.ifCond .le x)) rfl h1 rfl h2).trans rfl
set_option maxRecDepth 100000 in
theorem dX_iflt {n : Int} (h : bq2 cc pc 155 (fun a b => decide (Jvm.ClassFile.Reader.signed 16 (a * 256 + b) = n)) = true) : decode cc pc = .ok (.ifCond .lt n, 3) := by
  obtain ⟨h0, h1, h2, h3⟩ := bq2_of h
  have h3 := of_decide_eq_true h3
  subst h3
  refine dc_of ?_
  unfold Jvm.ClassFile.Decoder.instr
  rw [bx_b1 h0 (by decide)]
  exact (bx_s2 (K := fun x => Pure.pure (Jvm.ClassFile.Instr.ifCond .lt x)) rfl h1 rfl h2).trans rfl
set_option maxRecDepth 100000 in
theorem dX_ifne {n : Int} (h : bq2 cc pc 154 (fun a b => decide (Jvm.ClassFile.Reader.signed 16 (a * 256 + b) = n)) = true) : decode cc pc = .ok (.ifCond .ne n, 3) := by
  obtain ⟨h0, h1, h2, h3⟩ := bq2_of h
  have h3 := of_decide_eq_true h3
  subst h3
  refine dc_of ?_
  unfold Jvm.ClassFile.Decoder.instr
  rw [bx_b1 h0 (by decide)]
  exact (bx_s2 (K := fun x => Pure.pure (Jvm.ClassFile.Instr.ifCond .ne x)) rfl h1 rfl h2).trans rfl
set_option maxRecDepth 100000 in
theorem dX_ifnonnull {n : Int} (h : bq2 cc pc 199 (fun a b => decide (Jvm.ClassFile.Reader.signed 16 (a * 256 + b) = n)) = true) : decode cc pc = .ok (.ifnonnull n, 3) := by
  obtain ⟨h0, h1, h2, h3⟩ := bq2_of h
  have h3 := of_decide_eq_true h3
  subst h3
  refine dc_of ?_
  unfold Jvm.ClassFile.Decoder.instr
  rw [bx_b1 h0 (by decide)]
  exact (bx_s2 (K := fun x => Pure.pure (Jvm.ClassFile.Instr.ifnonnull x)) rfl h1 rfl h2).trans rfl
set_option maxRecDepth 100000 in
theorem dX_ifnull {n : Int} (h : bq2 cc pc 198 (fun a b => decide (Jvm.ClassFile.Reader.signed 16 (a * 256 + b) = n)) = true) : decode cc pc = .ok (.ifnull n, 3) := by
  obtain ⟨h0, h1, h2, h3⟩ := bq2_of h
  have h3 := of_decide_eq_true h3
  subst h3
  refine dc_of ?_
  unfold Jvm.ClassFile.Decoder.instr
  rw [bx_b1 h0 (by decide)]
  exact (bx_s2 (K := fun x => Pure.pure (Jvm.ClassFile.Instr.ifnull x)) rfl h1 rfl h2).trans rfl
set_option maxRecDepth 100000 in
theorem dX_sipush {n : Int} (h : bq2 cc pc 17 (fun a b => decide (Jvm.ClassFile.Reader.signed 16 (a * 256 + b) = n)) = true) : decode cc pc = .ok (.sipush n, 3) := by
  obtain ⟨h0, h1, h2, h3⟩ := bq2_of h
  have h3 := of_decide_eq_true h3
  subst h3
  refine dc_of ?_
  unfold Jvm.ClassFile.Decoder.instr
  rw [bx_b1 h0 (by decide)]
  exact (bx_s2 (K := fun x => Pure.pure (Jvm.ClassFile.Instr.sipush x)) rfl h1 rfl h2).trans rfl
set_option maxRecDepth 100000 in
theorem dX_iinc {i : Nat} {n : Int} (h : bq2 cc pc 132 (fun a b => Nat.beq a i && decide (Jvm.ClassFile.Reader.signed 8 b = n)) = true) : decode cc pc = .ok (.iinc i n, 3) := by
  obtain ⟨h0, h1, h2, h3⟩ := bq2_of h
  rw [Bool.and_eq_true] at h3
  have h4 := Nat.eq_of_beq_eq_true h3.1
  have h5 := of_decide_eq_true h3.2
  subst h4
  subst h5
  refine dc_of ?_
  unfold Jvm.ClassFile.Decoder.instr
  rw [bx_b1 h0 (by decide)]
  exact ((bx_b1 (K := fun x => Bind.bind Jvm.ClassFile.Reader.s1 fun y => Pure.pure (Jvm.ClassFile.Instr.iinc x y)) rfl h1).trans (bx_s1 (K := fun y => Pure.pure (Jvm.ClassFile.Instr.iinc _ y)) rfl h2)).trans rfl
end DEC
end
section
/-! THE PURE MACHINE: values are .inl z (an int, by any representative), .inr 0 (an unset local), .inr 1 (null), .inr (k + 2) (object number k of the layout); the memory is a function of object and place. -/
abbrev pV : Type := Int ⊕ Nat
abbrev pM : Type := Nat → Nat → Int
abbrev pR : Type := Option pV × pM
abbrev pX : Type := Nat → List pV → List pV → pM → Option pR
abbrev pY : Type := Nat → List pV → pM → Option pR
abbrev pS : Type := pX → pY → List pV → List pV → pM → Option pR
def iI (z : Int) : Int32 := Int32.ofInt z
def pset (M : pM) (o i : Nat) (v : Int) : pM := fun o' i' => if o' = o ∧ i' = i then v else M o' i'
def pfv (o k : Nat) (M : pM) : pV := match pFk (pK o) k with
  | 0 => .inl (M o k)
  | 1 => .inl (M o k)
  | 2 => .inr (pFr o k + 2)
  | _ => .inr (M o k).toNat
abbrev lt32 (x y : Int) : Prop := iI x < iI y
abbrev le32 (x y : Int) : Prop := iI x ≤ iI y
abbrev eq32 (x y : Int) : Prop := iI x = iI y
def b32 (f : Int32 → Int32 → Int32) (x y : Int) : Int := (f (iI x) (iI y)).toInt
theorem iI_b32 (f : Int32 → Int32 → Int32) (x y : Int) : iI (b32 f x y) = f (iI x) (iI y) := Int32.ofInt_toInt _
def jand : Int → Int → Int := b32 fun x y => x &&& y
def jor : Int → Int → Int := b32 fun x y => x ||| y
def jxor : Int → Int → Int := b32 fun x y => x ^^^ y
def jshl : Int → Int → Int := b32 fun x y => x <<< (y &&& 31)
def jshr : Int → Int → Int := b32 fun x y => x >>> (y &&& 31)
def jushr : Int → Int → Int := b32 fun x y => (x.toUInt32 >>> (y.toUInt32 &&& Int32.toUInt32 31)).toInt32
def jdiv : Int → Int → Int := b32 fun x y => x / y
def jrem : Int → Int → Int := b32 fun x y => x - x / y * y
def jmax (x y : Int) : Int := if lt32 x y then (iI y).toInt else (iI x).toInt
def jmin (x y : Int) : Int := if lt32 y x then (iI y).toInt else (iI x).toInt
def jb (x : Int) : Int := (iI x).toInt8.toInt32.toInt
def js (x : Int) : Int := (iI x).toInt16.toInt32.toInt
def jc (x : Int) : Int := ((iI x).toUInt32 % 65536).toInt32.toInt
-- the steps
def s_push (v : pV) (nx : Nat) : pS := fun X _ ls st M => X nx ls (v :: st) M
def s_ild (i nx : Nat) : pS := fun X _ ls st M => match ls.getD i (.inr 0) with
  | .inl x => X nx ls (.inl x :: st) M
  | .inr _ => none
def s_ald (i nx : Nat) : pS := fun X _ ls st M => match ls.getD i (.inr 0) with
  | .inr (k + 1) => X nx ls (.inr (k + 1) :: st) M
  | _ => none
def s_ist (i nx : Nat) : pS := fun X _ ls st M => match st with
  | .inl x :: r => X nx (ls.set i (.inl x)) r M
  | _ => none
def s_ast (i nx : Nat) : pS := fun X _ ls st M => match st with
  | .inr (k + 1) :: r => X nx (ls.set i (.inr (k + 1))) r M
  | _ => none
def s_bin (f : Int → Int → Int) (nx : Nat) : pS := fun X _ ls st M => match st with
  | .inl y :: .inl x :: r => X nx ls (.inl (f x y) :: r) M
  | _ => none
def s_div (f : Int → Int → Int) (nx : Nat) : pS := fun X _ ls st M => match st with
  | .inl y :: .inl x :: r => if eq32 y 0 then none else X nx ls (.inl (f x y) :: r) M
  | _ => none
def s_un (f : Int → Int) (nx : Nat) : pS := fun X _ ls st M => match st with
  | .inl x :: r => X nx ls (.inl (f x) :: r) M
  | _ => none
def s_inc (i : Nat) (c : Int) (nx : Nat) : pS := fun X _ ls st M => match ls.getD i (.inr 0) with
  | .inl x => X nx (ls.set i (.inl (x + c))) st M
  | .inr _ => none
def s_if (P : Int → Prop) (dP : DecidablePred P) (tgt nx : Nat) : pS := fun X _ ls st M => match st with
  | .inl x :: r => @ite _ (P x) (dP x) (X tgt ls r M) (X nx ls r M)
  | _ => none
def s_if2 (P : Int → Int → Prop) (dP : ∀ x y, Decidable (P x y)) (tgt nx : Nat) : pS := fun X _ ls st M => match st with
  | .inl y :: .inl x :: r => @ite _ (P x y) (dP x y) (X tgt ls r M) (X nx ls r M)
  | _ => none
def s_goto (tgt : Nat) : pS := fun X _ ls st M => X tgt ls st M
def s_getf (ci k nx : Nat) : pS := fun X _ ls st M => match st with
  | .inr (o + 2) :: r => bif Nat.beq (pK o) ci then X nx ls (pfv o k M :: r) M else none
  | _ => none
def s_puti (ci k nx : Nat) : pS := fun X _ ls st M => match st with
  | .inl v :: .inr (o + 2) :: r => bif Nat.beq (pK o) ci then X nx ls r (pset M o k v) else none
  | _ => none
def s_putz (ci k nx : Nat) : pS := fun X _ ls st M => match st with
  | .inl v :: .inr (o + 2) :: r => bif Nat.beq (pK o) ci then (if v = 0 ∨ v = 1 then X nx ls r (pset M o k v) else none) else none
  | _ => none
def s_putr (ci k tk nx : Nat) : pS := fun X _ ls st M => match st with
  | .inr (j + 2) :: .inr (o + 2) :: r => bif Nat.beq (pK o) ci && Nat.beq (pK j) tk then X nx ls r (pset M o k (Int.ofNat (j + 2))) else none
  | _ => none
def s_get (kd nx : Nat) : pS := fun X _ ls st M => match st with
  | .inl i :: .inr (o + 2) :: r => bif Nat.beq (pK o) kd then (if 0 ≤ i ∧ i < Int.ofNat (pL o) then X nx ls (.inl (M o i.toNat) :: r) M else none) else none
  | _ => none
def s_set (kd : Nat) (f : Int → Int) (nx : Nat) : pS := fun X _ ls st M => match st with
  | .inl v :: .inl i :: .inr (o + 2) :: r => bif Nat.beq (pK o) kd then (if 0 ≤ i ∧ i < Int.ofNat (pL o) then X nx ls r (pset M o i.toNat (f v)) else none) else none
  | _ => none
def s_setz (nx : Nat) : pS := fun X _ ls st M => match st with
  | .inl v :: .inl i :: .inr (o + 2) :: r => bif Nat.beq (pK o) 102 then (if 0 ≤ i ∧ i < Int.ofNat (pL o) then (if v = 0 ∨ v = 1 then X nx ls r (pset M o i.toNat v) else none) else none) else none
  | _ => none
def s_getq (nx : Nat) : pS := fun X _ ls st M => match st with
  | .inl i :: .inr (o + 2) :: r => bif Nat.beq (pK o) 103 then (if 0 ≤ i ∧ i < Int.ofNat (pL o) then X nx ls (.inr (pFr o i.toNat + 2) :: r) M else none) else none
  | _ => none
def s_len (nx : Nat) : pS := fun X _ ls st M => match st with
  | .inr (o + 2) :: r => bif Nat.ble 100 (pK o) && Nat.ble (pK o) 103 then X nx ls (.inl (Int.ofNat (pL o)) :: r) M else none
  | _ => none
def s_dup (nx : Nat) : pS := fun X _ ls st M => match st with
  | a :: r => X nx ls (a :: a :: r) M
  | _ => none
def s_dup2 (nx : Nat) : pS := fun X _ ls st M => match st with
  | a :: b :: r => X nx ls (a :: b :: a :: b :: r) M
  | _ => none
def s_dupx1 (nx : Nat) : pS := fun X _ ls st M => match st with
  | a :: b :: r => X nx ls (a :: b :: a :: r) M
  | _ => none
def s_pop (nx : Nat) : pS := fun X _ ls st M => match st with
  | _ :: r => X nx ls r M
  | _ => none
def s_ifnull (tgt nx : Nat) : pS := fun X _ ls st M => match st with
  | .inr 1 :: r => X tgt ls r M
  | .inr (_ + 2) :: r => X nx ls r M
  | _ => none
def s_sw (ps : List (Int × Nat)) (d : Nat) : pS := fun X _ ls st M => match st with
  | .inl x :: r => ps.foldr (fun q e => if eq32 x q.1 then X q.2 ls r M else e) (X d ls r M)
  | _ => none
def pbN (o : Option pR) (f : pM → Option pR) : Option pR := match o with
  | some (none, M) => f M
  | _ => none
def pbI (o : Option pR) (f : Int → pM → Option pR) : Option pR := match o with
  | some (some (.inl v), M) => f v M
  | _ => none
def pbR (o : Option pR) (f : Nat → pM → Option pR) : Option pR := match o with
  | some (some (.inr (k + 1)), M) => f k M
  | _ => none
def pbk (kd : Nat) (o : Option pR) (X : pX) (nx : Nat) (ls r : List pV) : Option pR := match kd with
  | 0 => pbN o fun M => X nx ls r M
  | 1 => pbI o fun v M => X nx ls (.inl v :: r) M
  | _ => pbR o fun k M => X nx ls (.inr (k + 1) :: r) M
def s_callS (kd k n nx : Nat) : pS := fun X Y ls st M => bif (Nat.ble n st.length && Nat.ble st.length 8) then pbk kd (Y k (st.take n).reverse M) X nx ls (st.drop n) else none
def s_callV (kd ci k n nx : Nat) : pS := fun X Y ls st M => match st.drop n with
  | .inr (o + 2) :: r => bif (Nat.beq (pK o) ci && Nat.ble st.length 8) then pbk kd (Y k (.inr (o + 2) :: (st.take n).reverse) M) X nx ls r else none
  | _ => none
def s_mm (f : Int → Int → Int) (nx : Nat) : pS := fun X _ ls st M => match st with
  | .inl y :: .inl x :: r => bif Nat.ble r.length 8 then X nx ls (.inl (f x y) :: r) M else none
  | _ => none
def s_iret : pS := fun _ _ _ st M => match st with
  | [.inl v] => some (some (.inl v), M)
  | _ => none
def s_zret : pS := fun _ _ _ st M => match st with
  | [.inl v] => if v = 0 ∨ v = 1 then some (some (.inl v), M) else none
  | _ => none
def s_aret : pS := fun _ _ _ st M => match st with
  | [.inr (k + 1)] => some (some (.inr (k + 1)), M)
  | _ => none
def s_vret : pS := fun _ _ _ st M => match st with
  | [] => some (none, M)
  | _ => none
def s_none : pS := fun _ _ _ _ _ => none
-- the text of the rule's letters (object 90), its bytes (object 91): read only, not in the world
def sbyt : List Int32 := [105, 98, 119, 103, 107, 114, 122, 100, 104]
def s_sfld (v : pV) (nx : Nat) : pS := fun X _ ls st M => match st with
  | .inr 93 :: r => X nx ls (v :: r) M
  | _ => none
def s_slen (nx : Nat) : pS := fun X _ ls st M => match st with
  | .inr 94 :: r => X nx ls (.inl 9 :: r) M
  | _ => none
def s_sbld (nx : Nat) : pS := fun X _ ls st M => match st with
  | .inl i :: .inr 94 :: r => if 0 ≤ i ∧ i < 9 then X nx ls (.inl (sbyt.getD i.toNat 0).toInt :: r) M else none
  | _ => none
def s_callW (kd k n nx : Nat) : pS := fun X Y ls st M => match st.drop n with
  | .inr 93 :: r => bif Nat.ble st.length 8 then pbk kd (Y k (.inr 93 :: (st.take n).reverse) M) X nx ls r else none
  | _ => none
/-! how it stands for the real one -/
def ptv (ad : Nat → Nat) : pV → Value
  | .inl v => .int (iI v)
  | .inr 0 => .null
  | .inr 1 => .null
  | .inr (k + 2) => .ref (ad k)
theorem ptv_cat (ad : Nat → Nat) (v : pV) : (ptv ad v).category = 1 := by
  rcases v with v | _ | _ | k <;> rfl
def pEn (ad : Nat → Nat) (cA : Nat → ClassId) (M : pM) (o : Nat) : Nat × va_E := (ad o,
  if pK o < 100 then .inr (pK o, (List.range (pL o)).map fun k => ptv ad (pfv o k M))
  else if pK o = 103 then .inl (cA o, pL o, .inr (.inr (.inr (.inr fun i => some (ad (pFr o i))))))
  else if pK o = 105 then .inl (cA o, pL o, .inr (.inl fun i => Int64.ofInt (M o i)))
  else .inl (cA o, pL o, .inl fun i => iI (M o i)))
def pW (ad : Nat → Nat) (cA : Nat → ClassId) (M : pM) : va_W := (List.range pN).map (pEn ad cA M)
def ptys (cA : Nat → ClassId) : List (ClassId × FieldType) := pArr.map fun o => (cA o, pty o)
theorem pK_lt {o : Nat} (h : pK o ≠ 104) : o < pN := by
  rcases Nat.lt_or_ge o pN with q | q
  · exact q
  · exact absurd (show pK o = 104 by unfold pK; rw [pOT_end q]) h
theorem pL_le (o : Nat) : pL o ≤ 100000 := by
  rcases Nat.lt_or_ge o pN with q | q
  · exact (show ∀ o, o < pN → pL o ≤ 100000 by decide +kernel) o q
  · unfold pL; rw [pOT_end q]; exact Nat.zero_le _
theorem pW_at (ad : Nat → Nat) (cA : Nat → ClassId) (M : pM) {o : Nat} (h : o < pN) : (pW ad cA M)[o]? = some (pEn ad cA M o) := by
  unfold pW; rw [List.getElem?_map, List.getElem?_range h]; rfl
theorem pW_len (ad : Nat → Nat) (cA : Nat → ClassId) (M : pM) : (pW ad cA M).length = pN := by unfold pW; simp
theorem pW_ad {ad : Nat → Nat} {cA : Nat → ClassId} {M : pM} {k : Nat} {q : Nat × va_E} (h : (pW ad cA M)[k]? = some q) : k < pN ∧ q = pEn ad cA M k := by
  have hk : k < pN := by rw [← pW_len ad cA M]; exact (List.getElem?_eq_some_iff.mp h).1
  rw [pW_at ad cA M hk] at h
  exact ⟨hk, (Option.some.inj h).symm⟩
theorem pD_of {ad : Nat → Nat} {cA : Nat → ClassId} {M M' : pM} {A : Nat → Prop} (h : va_D A (pW ad cA M)) : va_D A (pW ad cA M') := by
  refine ⟨fun i j p q hi hj e => ?_, fun k q hk => ?_⟩
  · obtain ⟨li, rfl⟩ := pW_ad hi
    obtain ⟨lj, rfl⟩ := pW_ad hj
    exact h.1 i j _ _ (pW_at ad cA M li) (pW_at ad cA M lj) e
  · obtain ⟨lk, rfl⟩ := pW_ad hk
    exact (h.2 k _ (pW_at ad cA M lk) : A (ad k))
theorem pEn_same {ad : Nat → Nat} {cA : Nat → ClassId} {M M' : pM} {o : Nat} (h : ∀ i, M' o i = M o i) : pEn ad cA M' o = pEn ad cA M o := by
  have h1 : (fun i => iI (M' o i)) = fun i => iI (M o i) := funext fun i => by rw [h i]
  have h2 : (fun k => ptv ad (pfv o k M')) = fun k => ptv ad (pfv o k M) := funext fun k => by unfold pfv; rw [h k]
  have h3 : (fun i => Int64.ofInt (M' o i)) = fun i => Int64.ofInt (M o i) := funext fun i => by rw [h i]
  unfold pEn; rw [h1, h2, h3]
/-- the memory changes at one object: the world changes at its place -/
theorem pW_set {ad : Nat → Nat} {cA : Nat → ClassId} {M M' : pM} {o : Nat} (hM : ∀ o' i, o' ≠ o → M' o' i = M o' i) {e : Nat × va_E} (he : pEn ad cA M' o = e) : (pW ad cA M).set o e = pW ad cA M' := by
  subst he
  apply List.ext_getElem?
  intro k
  rw [List.getElem?_set, pW_len]
  split
  · rename_i h
    subst h
    split
    · rename_i h2; rw [pW_at ad cA M' h2]
    · rename_i h2; exact (List.getElem?_eq_none (by rw [pW_len]; exact Nat.le_of_not_lt h2)).symm
  · rename_i h
    rcases Nat.lt_or_ge k pN with q | q
    · rw [pW_at ad cA M q, pW_at ad cA M' q, pEn_same (fun i => hM k i (fun e => h e.symm))]
    · rw [List.getElem?_eq_none (by rw [pW_len]; exact q), List.getElem?_eq_none (by rw [pW_len]; exact q)]
theorem pset_ne {M : pM} {o i : Nat} {v : Int} {o' i' : Nat} (h : o' ≠ o) : pset M o i v o' i' = M o' i' := by
  unfold pset; rw [if_neg (fun q => h q.1)]
theorem pset_ne2 {M : pM} {o i : Nat} {v : Int} {i' : Nat} (h : i' ≠ i) : pset M o i v o i' = M o i' := by
  unfold pset; rw [if_neg (fun q => h q.2)]
theorem pset_eq {M : pM} {o i : Nat} {v : Int} : pset M o i v o i = v := by
  unfold pset; rw [if_pos ⟨rfl, rfl⟩]
def nfld (c : Nat) : Nat := (pFKL.getD c []).length
theorem pL_fld {o : Nat} (h : pK o < 100) : pL o = nfld (pK o) := (show ∀ o, o < pN → pK o < 100 → pL o = nfld (pK o) by decide +kernel) o (pK_lt (by omega)) h
def pLs (ad : Nat → Nat) (nL : Nat) (ls : List pV) (arr : Array Slot) : Prop := ls.length = nL ∧ arr.size = nL ∧ lv_wf arr ∧ ∀ (i : Nat) (v : pV), ls[i]? = some v → v ≠ .inr 0 → arr[i]? = some (.val (ptv ad v))
def pprs (ad : Nat → Nat) (ls : List pV) : List (Nat × Value) := (List.range ls.length).filterMap fun i => match ls[i]? with
  | some (Sum.inr 0) => none
  | some v => some (i, ptv ad v)
  | none => none
theorem pprs_mem {ad : Nat → Nat} {ls : List pV} {q : Nat × Value} : q ∈ pprs ad ls ↔ ∃ v, ls[q.1]? = some v ∧ v ≠ .inr 0 ∧ q.2 = ptv ad v := by
  unfold pprs
  rw [List.mem_filterMap]
  constructor
  · rintro ⟨i, hi, h⟩
    cases hv : ls[i]? with
    | none => rw [hv] at h; cases h
    | some v =>
      rw [hv] at h
      rcases v with v | _ | k
      · cases h; exact ⟨_, hv, fun e => (by cases e), rfl⟩
      · cases h
      · cases h; exact ⟨_, hv, fun e => (by cases e), rfl⟩
  · rintro ⟨v, hv, hne, e⟩
    refine ⟨q.1, List.mem_range.mpr (List.getElem?_eq_some_iff.mp hv).1, ?_⟩
    rw [hv]
    rcases v with v | _ | k
    · exact congrArg some (Prod.ext rfl e.symm)
    · exact absurd rfl hne
    · exact congrArg some (Prod.ext rfl e.symm)
theorem pLs_has {ad : Nat → Nat} {nL : Nat} {ls : List pV} {arr : Array Slot} (h : pLs ad nL ls arr) : lv_has arr nL (pprs ad ls) := by
  refine ⟨h.2.1, h.2.2.1, fun q hq => ?_⟩
  obtain ⟨v, h1, h2, h3⟩ := pprs_mem.mp hq
  rw [h3]
  exact h.2.2.2 _ v h1 h2
theorem pLs_st {ad : Nat → Nat} {nL i : Nat} {ls : List pV} {arr arr' : Array Slot} {v : pV} {x : Value} (h : pLs ad nL ls arr) (hx : ptv ad v = x) (h2 : lv_has arr' nL ((i, x) :: (pprs ad ls).filter (fun q => !(q.1 == i) && !(q.1 + 1 == i && q.2.category == 2)))) : pLs ad nL (ls.set i v) arr' := by
  refine ⟨by rw [List.length_set]; exact h.1, h2.1, h2.2.1, fun j u hj hu => ?_⟩
  rw [List.getElem?_set] at hj
  split at hj
  · rename_i e
    subst e
    split at hj
    · cases hj
      have := h2.2.2 (i, x) List.mem_cons_self
      rw [hx]; exact this
    · cases hj
  · rename_i e
    have := h2.2.2 (j, ptv ad u) (List.mem_cons_of_mem _ (List.mem_filter.mpr ⟨pprs_mem.mpr ⟨u, hj, hu, rfl⟩, by
      have e2 : (j == i) = false := by simpa using fun e3 => e e3.symm
      simp [e2, ptv_cat]⟩))
    exact this
theorem pLs_at {ad : Nat → Nat} {nL i : Nat} {ls : List pV} {arr : Array Slot} {v : pV} (h : pLs ad nL ls arr) (hv : ls.getD i (.inr 0) = v) (hne : v ≠ .inr 0) : arr[i]? = some (.val (ptv ad v)) ∧ ls[i]? = some v := by
  have h1 : ls[i]? = some v := by
    rw [List.getD_eq_getElem?_getD] at hv
    cases e : ls[i]? with
    | none => rw [e] at hv; exact absurd hv.symm hne
    | some u => rw [e] at hv; exact congrArg some hv
  exact ⟨h.2.2.2 i v h1 hne, h1⟩
theorem iI_in {i : Int} {n : Nat} (h0 : 0 ≤ i) (h1 : i < Int.ofNat n) (hn : n ≤ 100000) : vp_in (iI i) n ∧ (iI i).toNatClampNeg = i.toNat := by
  have h1 : i < (n : Int) := h1
  have e : (iI i).toInt = i := Int32.toInt_ofInt_of_le (by omega) (by omega)
  refine ⟨vp_in_iff.mpr (by rw [e]; exact ⟨h0, h1⟩), ?_⟩
  show (iI i).toInt.toNat = i.toNat
  rw [e]

def pRO (ad : Nat → Nat) (A : Nat → Prop) (U : State) (H : Heap) : Prop := vk_S 1 [9] [sbyt] (fun _ => ad 91) (fun _ => ad 92) A U H ∧ va_Z "java/lang/String" "COMPACT_STRINGS" "Z" (.int 1) A U H ∧ vk_R RX7 130 "ibwgkrzdh" (ad 91) U
/-- what holds in a frame of a method of the system -/
def pCx (p : Program) (R : Room) (s : State) (m : MethodId) (args : Array Value) (meth : Method) (c : Code) (G : va_G) (ad : Nat → Nat) (cA : Nat → ClassId) (A : Nat → Prop) (H0 : Heap) (own : String) (cc : ByteArray) (nL kc ks : Nat) : Prop :=
  p.tables.exec = Jvm.exec ∧ c.code = cc ∧ c.maxLocals = nL ∧ s.vm.findClass own = some m.cls ∧ (∀ w ∈ pws, w.before args s = true) ∧ pNw s ∧ va_K G pcl (ptys cA) s ∧ kc ≤ R.cells ∧ ks ≤ R.slots ∧ 1 ≤ R.frames ∧ 30 ≤ R.locals ∧ H0 = s.heap ∧ pRO ad A s s.heap
def pWd (G : va_G) (ad : Nat → Nat) (cA : Nat → ClassId) (A : Nat → Prop) (H0 : Heap) (M : pM) (H : Heap) (locs : List Loc) : Prop := va_P G pcl (pW ad cA M) H ∧ va_D A (pW ad cA M) ∧ va_S A H0 H locs
/-- a goal family: the frame, at each place of the method, comes to its end as X says -/
def pGd (p : Program) (l : Launch) (e : Env) (R : Room) (s : State) (m : MethodId) (args : Array Value) (below : List Frame) (meth : Method) (c : Code) (G : va_G) (ad : Nat → Nat) (cA : Nat → ClassId) (A : Nat → Prop) (H0 : Heap) (kc ks : Nat) (Q : pR → State → Prop) (nL : Nat) (pcs : Nat → Nat) (X : pX) : Prop :=
  ∀ i ls st M r, X i ls st M = some r → ∀ H locs arr, pWd G ad cA A H0 M H locs → pLs ad nL ls arr → W p l e R s m args below meth c H locs kc ks (Q r) (F0 m (pcs i) arr (st.map (ptv ad)))
def pPre (G : va_G) (ad : Nat → Nat) (cA : Nat → ClassId) (M : pM) (sz : Nat) (U : State) : Prop := U.heap.size = sz ∧ va_P G pcl (pW ad cA M) U.heap ∧ va_K G pcl (ptys cA) U ∧ va_D (fun _ => True) (pW ad cA M) ∧ pNw U ∧ pRO ad (va_A (pW ad cA M) sz) U U.heap
def pQ (G : va_G) (ad : Nat → Nat) (cA : Nat → ClassId) (A : Nat → Prop) (r : pR) : Array Value → State → Outcome → State → Prop := fun _ st o t => o = .returned (r.1.map (ptv ad)) ∧ va_P G pcl (pW ad cA r.2) t.heap ∧ va_F A st t
/-- the contracts that the calls of a frame with room R may use -/
def pMt (l : Launch) (G : va_G) (ad : Nat → Nat) (cA : Nat → ClassId) (yn : Nat → MethodName) (wk : Nat → List Cond) (R : Room) (Y : pY) : Prop :=
  ∀ k a M r, Y k a M = some r → ∃ rm : Room, rm.cells = 0 ∧ rm.slots = 0 ∧ rm.frames + 1 ≤ R.frames ∧ 80 + rm.locals ≤ R.locals ∧ ∀ sz, Met l (yn k) (wk k) rm (va_Pc (a.map (ptv ad)) (pPre G ad cA M sz)) (pQ G ad cA (va_A (pW ad cA M) sz) r) 0 0 (va_A (pW ad cA M) sz)
/-- how a method of that return type ends -/
def pRt (p : Program) (l : Launch) (e : Env) (R : Room) (s : State) (m : MethodId) (args : Array Value) (below : List Frame) (meth : Method) (c : Code) (G : va_G) (ad : Nat → Nat) (cA : Nat → ClassId) (A : Nat → Prop) (H0 : Heap) (kc ks : Nat) (Q : pR → State → Prop) (cc : ByteArray) (ret : Option FieldType) : Prop :=
  (ret = some .int → ∀ v M H locs arr pc, decode cc pc = .ok (.ireturn, 1) → pWd G ad cA A H0 M H locs → W p l e R s m args below meth c H locs kc ks (Q (some (.inl v), M)) (F0 m pc arr [ptv ad (.inl v)]))
  ∧ ((ret = some .boolean ∨ ret = some .byte) → ∀ v M H locs arr pc, (v = 0 ∨ v = 1) → decode cc pc = .ok (.ireturn, 1) → pWd G ad cA A H0 M H locs → W p l e R s m args below meth c H locs kc ks (Q (some (.inl v), M)) (F0 m pc arr [ptv ad (.inl v)]))
  ∧ (ret = none → ∀ M H locs arr pc, decode cc pc = .ok (.return_, 1) → pWd G ad cA A H0 M H locs → W p l e R s m args below meth c H locs kc ks (Q (none, M)) (F0 m pc arr []))
  ∧ ((∃ n, ret = some (.object n)) → ∀ k M H locs arr pc, decode cc pc = .ok (.areturn, 1) → pWd G ad cA A H0 M H locs → W p l e R s m args below meth c H locs kc ks (Q (some (.inr (k + 1)), M)) (F0 m pc arr [ptv ad (.inr (k + 1))]))
/-- a step is sound at a place of a method -/
def pSnd (yn : Nat → MethodName) (wk : Nat → List Cond) (own : String) (cc : ByteArray) (nL : Nat) (ret : Option FieldType) (pcs : Nat → Nat) (bpc : Nat) (f : pS) : Prop :=
  ∀ (p : Program) (l : Launch) (e : Env) (R : Room) (s : State) (m : MethodId) (args : Array Value) (below : List Frame) (meth : Method) (c : Code) (G : va_G) (ad : Nat → Nat) (cA : Nat → ClassId) (A : Nat → Prop) (H0 : Heap) (kc ks : Nat) (Q : pR → State → Prop),
  pCx p R s m args meth c G ad cA A H0 own cc nL kc ks → (∀ q : Nat, H0.size ≤ q → A q) → pRt p l e R s m args below meth c G ad cA A H0 kc ks Q cc ret →
  ∀ (X : pX) (Y : pY), pGd p l e R s m args below meth c G ad cA A H0 kc ks Q nL pcs X → pMt l G ad cA yn wk R Y →
  ∀ ls st M r, f X Y ls st M = some r → ∀ H locs arr, pWd G ad cA A H0 M H locs → pLs ad nL ls arr → W p l e R s m args below meth c H locs kc ks (Q r) (F0 m bpc arr (st.map (ptv ad)))
section SND
variable {yn : Nat → MethodName} {wk : Nat → List Cond} {own : String} {cc : ByteArray} {nL : Nat} {ret : Option FieldType} {pcs : Nat → Nat} {bpc : Nat}

theorem sn_iconst {n : Int} {nx : Nat} (hd : decode cc bpc = .ok (.iconst n, 1)) (hn : pcs nx = bpc + 1) : pSnd yn wk own cc nL ret pcs bpc (s_push (.inl n) nx) := by
  intro p l e R s m args below meth c G ad cA A H0 kc ks Q ⟨hx, hb, hml, hown, hts, hnw, hK, hkc, hks, hfr, hlo, hH0, hRO⟩ hA hR X Y hX hY ls st M r h H locs arr hW hl
  refine lv_iconst (v := iI n) hx hb hd rfl ?_
  rw [← hn]
  exact hX _ _ _ _ _ h _ _ _ hW hl
theorem sn_bipush {n : Int} {nx : Nat} (hd : decode cc bpc = .ok (.bipush n, 2)) (hv : (Int8.ofInt n).toInt32 = iI n) (hn : pcs nx = bpc + 2) : pSnd yn wk own cc nL ret pcs bpc (s_push (.inl n) nx) := by
  intro p l e R s m args below meth c G ad cA A H0 kc ks Q ⟨hx, hb, hml, hown, hts, hnw, hK, hkc, hks, hfr, hlo, hH0, hRO⟩ hA hR X Y hX hY ls st M r h H locs arr hW hl
  refine lv_bipush (v := iI n) hx hb hd hv ?_
  rw [← hn]
  exact hX _ _ _ _ _ h _ _ _ hW hl
theorem sn_sipush {n : Int} {nx : Nat} (hd : decode cc bpc = .ok (.sipush n, 3)) (hv : (Int16.ofInt n).toInt32 = iI n) (hn : pcs nx = bpc + 3) : pSnd yn wk own cc nL ret pcs bpc (s_push (.inl n) nx) := by
  intro p l e R s m args below meth c G ad cA A H0 kc ks Q ⟨hx, hb, hml, hown, hts, hnw, hK, hkc, hks, hfr, hlo, hH0, hRO⟩ hA hR X Y hX hY ls st M r h H locs arr hW hl
  refine lv_sipush (v := iI n) hx hb hd hv ?_
  rw [← hn]
  exact hX _ _ _ _ _ h _ _ _ hW hl
theorem sn_ldc {n : Int} {nx idx : Nat} (hd : decode cc bpc = .ok (.ldc idx, 2)) (hc : Cond.constant own idx (iI n) ∈ pws) (hn : pcs nx = bpc + 2) : pSnd yn wk own cc nL ret pcs bpc (s_push (.inl n) nx) := by
  intro p l e R s m args below meth c G ad cA A H0 kc ks Q ⟨hx, hb, hml, hown, hts, hnw, hK, hkc, hks, hfr, hlo, hH0, hRO⟩ hA hR X Y hX hY ls st M r h H locs arr hW hl
  refine lv_ldc (v := iI n) hx hb hown (hts _ hc) hd ?_
  rw [← hn]
  exact hX _ _ _ _ _ h _ _ _ hW hl
theorem sn_ldcw {n : Int} {nx idx : Nat} (hd : decode cc bpc = .ok (.ldc_w idx, 3)) (hc : Cond.constant own idx (iI n) ∈ pws) (hn : pcs nx = bpc + 3) : pSnd yn wk own cc nL ret pcs bpc (s_push (.inl n) nx) := by
  intro p l e R s m args below meth c G ad cA A H0 kc ks Q ⟨hx, hb, hml, hown, hts, hnw, hK, hkc, hks, hfr, hlo, hH0, hRO⟩ hA hR X Y hX hY ls st M r h H locs arr hW hl
  refine lv_ldcw (v := iI n) hx hb hown (hts _ hc) hd ?_
  rw [← hn]
  exact hX _ _ _ _ _ h _ _ _ hW hl
theorem sn_null {nx : Nat} (hd : decode cc bpc = .ok (.aconst_null, 1)) (hn : pcs nx = bpc + 1) : pSnd yn wk own cc nL ret pcs bpc (s_push (.inr 1) nx) := by
  intro p l e R s m args below meth c G ad cA A H0 kc ks Q ⟨hx, hb, hml, hown, hts, hnw, hK, hkc, hks, hfr, hlo, hH0, hRO⟩ hA hR X Y hX hY ls st M r h H locs arr hW hl
  refine lv_null hx hb hd ?_
  rw [← hn]
  exact hX _ _ _ _ _ h _ _ _ hW hl
theorem sn_iload {i nx : Nat} (hd : decode cc bpc = .ok (.iload i, 2)) (hn : pcs nx = bpc + 2) : pSnd yn wk own cc nL ret pcs bpc (s_ild i nx) := by
  intro p l e R s m args below meth c G ad cA A H0 kc ks Q ⟨hx, hb, hml, hown, hts, hnw, hK, hkc, hks, hfr, hlo, hH0, hRO⟩ hA hR X Y hX hY ls st M r h H locs arr hW hl
  unfold s_ild at h
  cases hv : ls.getD i (.inr 0) with
  | inr k => rw [hv] at h; cases h
  | inl x =>
    rw [hv] at h
    refine lv_iload hx hb hd (pLs_at hl hv (fun q => by cases q)).1 ?_
    rw [← hn]
    exact hX _ _ _ _ _ h _ _ _ hW hl
theorem sn_iload_n {i nx : Nat} {k : Fin 4} (hd : decode cc bpc = .ok (.iload_n k, 1)) (hk : (k : Nat) = i) (hn : pcs nx = bpc + 1) : pSnd yn wk own cc nL ret pcs bpc (s_ild i nx) := by
  intro p l e R s m args below meth c G ad cA A H0 kc ks Q ⟨hx, hb, hml, hown, hts, hnw, hK, hkc, hks, hfr, hlo, hH0, hRO⟩ hA hR X Y hX hY ls st M r h H locs arr hW hl
  unfold s_ild at h
  cases hv : ls.getD i (.inr 0) with
  | inr k => rw [hv] at h; cases h
  | inl x =>
    rw [hv] at h
    refine lv_iload_n hx hb hd hk (pLs_at hl hv (fun q => by cases q)).1 ?_
    rw [← hn]
    exact hX _ _ _ _ _ h _ _ _ hW hl
theorem sn_aload_n {i nx : Nat} {k : Fin 4} (hd : decode cc bpc = .ok (.aload_n k, 1)) (hk : (k : Nat) = i) (hn : pcs nx = bpc + 1) : pSnd yn wk own cc nL ret pcs bpc (s_ald i nx) := by
  intro p l e R s m args below meth c G ad cA A H0 kc ks Q ⟨hx, hb, hml, hown, hts, hnw, hK, hkc, hks, hfr, hlo, hH0, hRO⟩ hA hR X Y hX hY ls st M r h H locs arr hW hl
  unfold s_ald at h
  rcases hv : ls.getD i (.inr 0) with x | _ | _ | k
  · rw [hv] at h; cases h
  · rw [hv] at h; cases h
  · rw [hv] at h
    refine lv_aload_nN hx hb hd hk (pLs_at hl hv (fun q => by cases q)).1 ?_
    rw [← hn]
    exact hX _ _ _ _ _ h _ _ _ hW hl
  · rw [hv] at h
    refine lv_aload_n hx hb hd hk (x := ad k) (pLs_at hl hv (fun q => by cases q)).1 ?_
    rw [← hn]
    exact hX _ _ _ _ _ h _ _ _ hW hl
theorem sn_istore {i nx : Nat} (hd : decode cc bpc = .ok (.istore i, 2)) (hi : i < nL) (hn : pcs nx = bpc + 2) : pSnd yn wk own cc nL ret pcs bpc (s_ist i nx) := by
  intro p l e R s m args below meth c G ad cA A H0 kc ks Q ⟨hx, hb, hml, hown, hts, hnw, hK, hkc, hks, hfr, hlo, hH0, hRO⟩ hA hR X Y hX hY ls st M r h H locs arr hW hl
  unfold s_ist at h
  rcases st with _ | ⟨x | x, rest⟩
  · cases h
  · refine lv_istore hx hb hd (pLs_has hl) hi rfl (fun ls' hl' => ?_)
    rw [← hn]
    exact hX _ _ _ _ _ h _ _ _ hW (pLs_st (v := .inl x) hl rfl hl')
  · cases h
theorem sn_istore_n {i nx : Nat} {k : Fin 4} (hd : decode cc bpc = .ok (.istore_n k, 1)) (hk : (k : Nat) = i) (hi : i < nL) (hn : pcs nx = bpc + 1) : pSnd yn wk own cc nL ret pcs bpc (s_ist i nx) := by
  intro p l e R s m args below meth c G ad cA A H0 kc ks Q ⟨hx, hb, hml, hown, hts, hnw, hK, hkc, hks, hfr, hlo, hH0, hRO⟩ hA hR X Y hX hY ls st M r h H locs arr hW hl
  unfold s_ist at h
  rcases st with _ | ⟨x | x, rest⟩
  · cases h
  · refine lv_istore_n hx hb hd hk (pLs_has hl) hi rfl (fun ls' hl' => ?_)
    rw [← hn]
    exact hX _ _ _ _ _ h _ _ _ hW (pLs_st (v := .inl x) hl rfl hl')
  · cases h
theorem sn_astore_n {i nx : Nat} {k : Fin 4} (hd : decode cc bpc = .ok (.astore_n k, 1)) (hk : (k : Nat) = i) (hi : i < nL) (hn : pcs nx = bpc + 1) : pSnd yn wk own cc nL ret pcs bpc (s_ast i nx) := by
  intro p l e R s m args below meth c G ad cA A H0 kc ks Q ⟨hx, hb, hml, hown, hts, hnw, hK, hkc, hks, hfr, hlo, hH0, hRO⟩ hA hR X Y hX hY ls st M r h H locs arr hW hl
  unfold s_ast at h
  rcases st with _ | ⟨x | _ | _ | k9, rest⟩
  · cases h
  · cases h
  · cases h
  · refine lv_astore_nN hx hb hd hk (pLs_has hl) hi rfl (fun ls' hl' => ?_)
    rw [← hn]
    exact hX _ _ _ _ _ h _ _ _ hW (pLs_st (v := .inr 1) hl rfl hl')
  · refine lv_astore_n hx hb hd hk (x := ad k9) (pLs_has hl) hi rfl (fun ls' hl' => ?_)
    rw [← hn]
    exact hX _ _ _ _ _ h _ _ _ hW (pLs_st (v := .inr (k9 + 2)) hl rfl hl')
theorem sn_iadd {nx : Nat} (hd : decode cc bpc = .ok (.iadd, 1)) (hn : pcs nx = bpc + 1) : pSnd yn wk own cc nL ret pcs bpc (s_bin (fun x y => x + y) nx) := by
  intro p l e R s m args below meth c G ad cA A H0 kc ks Q ⟨hx, hb, hml, hown, hts, hnw, hK, hkc, hks, hfr, hlo, hH0, hRO⟩ hA hR X Y hX hY ls st M r h H locs arr hW hl
  unfold s_bin at h
  rcases st with _ | ⟨y | y, _ | ⟨x | x, rest⟩⟩
  · cases h
  · cases h
  · refine lv_iadd hx hb hd ?_
    rw [← hn]
    have e9 := hX _ _ _ _ _ h _ _ _ hW hl
    rw [List.map_cons, show ptv ad (.inl ((fun x y => x + y) x y)) = Value.int _ from congrArg Value.int (Int32.ofInt_add x y)] at e9
    exact e9
  all_goals cases h
theorem sn_isub {nx : Nat} (hd : decode cc bpc = .ok (.isub, 1)) (hn : pcs nx = bpc + 1) : pSnd yn wk own cc nL ret pcs bpc (s_bin (fun x y => x - y) nx) := by
  intro p l e R s m args below meth c G ad cA A H0 kc ks Q ⟨hx, hb, hml, hown, hts, hnw, hK, hkc, hks, hfr, hlo, hH0, hRO⟩ hA hR X Y hX hY ls st M r h H locs arr hW hl
  unfold s_bin at h
  rcases st with _ | ⟨y | y, _ | ⟨x | x, rest⟩⟩
  · cases h
  · cases h
  · refine lv_isub hx hb hd ?_
    rw [← hn]
    have e9 := hX _ _ _ _ _ h _ _ _ hW hl
    rw [List.map_cons, show ptv ad (.inl ((fun x y => x - y) x y)) = Value.int _ from congrArg Value.int (Int32.ofInt_sub x y)] at e9
    exact e9
  all_goals cases h
theorem sn_imul {nx : Nat} (hd : decode cc bpc = .ok (.imul, 1)) (hn : pcs nx = bpc + 1) : pSnd yn wk own cc nL ret pcs bpc (s_bin (fun x y => x * y) nx) := by
  intro p l e R s m args below meth c G ad cA A H0 kc ks Q ⟨hx, hb, hml, hown, hts, hnw, hK, hkc, hks, hfr, hlo, hH0, hRO⟩ hA hR X Y hX hY ls st M r h H locs arr hW hl
  unfold s_bin at h
  rcases st with _ | ⟨y | y, _ | ⟨x | x, rest⟩⟩
  · cases h
  · cases h
  · refine lv_imul hx hb hd ?_
    rw [← hn]
    have e9 := hX _ _ _ _ _ h _ _ _ hW hl
    rw [List.map_cons, show ptv ad (.inl ((fun x y => x * y) x y)) = Value.int _ from congrArg Value.int (Int32.ofInt_mul x y)] at e9
    exact e9
  all_goals cases h
theorem sn_iand {nx : Nat} (hd : decode cc bpc = .ok (.iand, 1)) (hn : pcs nx = bpc + 1) : pSnd yn wk own cc nL ret pcs bpc (s_bin jand nx) := by
  intro p l e R s m args below meth c G ad cA A H0 kc ks Q ⟨hx, hb, hml, hown, hts, hnw, hK, hkc, hks, hfr, hlo, hH0, hRO⟩ hA hR X Y hX hY ls st M r h H locs arr hW hl
  unfold s_bin at h
  rcases st with _ | ⟨y | y, _ | ⟨x | x, rest⟩⟩
  · cases h
  · cases h
  · refine lv_iand hx hb hd ?_
    rw [← hn]
    have e9 := hX _ _ _ _ _ h _ _ _ hW hl
    rw [List.map_cons, show ptv ad (.inl (jand x y)) = Value.int _ from congrArg Value.int (iI_b32 _ x y)] at e9
    exact e9
  all_goals cases h
theorem sn_ior {nx : Nat} (hd : decode cc bpc = .ok (.ior, 1)) (hn : pcs nx = bpc + 1) : pSnd yn wk own cc nL ret pcs bpc (s_bin jor nx) := by
  intro p l e R s m args below meth c G ad cA A H0 kc ks Q ⟨hx, hb, hml, hown, hts, hnw, hK, hkc, hks, hfr, hlo, hH0, hRO⟩ hA hR X Y hX hY ls st M r h H locs arr hW hl
  unfold s_bin at h
  rcases st with _ | ⟨y | y, _ | ⟨x | x, rest⟩⟩
  · cases h
  · cases h
  · refine lv_ior hx hb hd ?_
    rw [← hn]
    have e9 := hX _ _ _ _ _ h _ _ _ hW hl
    rw [List.map_cons, show ptv ad (.inl (jor x y)) = Value.int _ from congrArg Value.int (iI_b32 _ x y)] at e9
    exact e9
  all_goals cases h
theorem sn_ixor {nx : Nat} (hd : decode cc bpc = .ok (.ixor, 1)) (hn : pcs nx = bpc + 1) : pSnd yn wk own cc nL ret pcs bpc (s_bin jxor nx) := by
  intro p l e R s m args below meth c G ad cA A H0 kc ks Q ⟨hx, hb, hml, hown, hts, hnw, hK, hkc, hks, hfr, hlo, hH0, hRO⟩ hA hR X Y hX hY ls st M r h H locs arr hW hl
  unfold s_bin at h
  rcases st with _ | ⟨y | y, _ | ⟨x | x, rest⟩⟩
  · cases h
  · cases h
  · refine lv_ixor hx hb hd ?_
    rw [← hn]
    have e9 := hX _ _ _ _ _ h _ _ _ hW hl
    rw [List.map_cons, show ptv ad (.inl (jxor x y)) = Value.int _ from congrArg Value.int (iI_b32 _ x y)] at e9
    exact e9
  all_goals cases h
theorem sn_ishl {nx : Nat} (hd : decode cc bpc = .ok (.ishl, 1)) (hn : pcs nx = bpc + 1) : pSnd yn wk own cc nL ret pcs bpc (s_bin jshl nx) := by
  intro p l e R s m args below meth c G ad cA A H0 kc ks Q ⟨hx, hb, hml, hown, hts, hnw, hK, hkc, hks, hfr, hlo, hH0, hRO⟩ hA hR X Y hX hY ls st M r h H locs arr hW hl
  unfold s_bin at h
  rcases st with _ | ⟨y | y, _ | ⟨x | x, rest⟩⟩
  · cases h
  · cases h
  · refine lv_ishl hx hb hd ?_
    rw [← hn]
    have e9 := hX _ _ _ _ _ h _ _ _ hW hl
    rw [List.map_cons, show ptv ad (.inl (jshl x y)) = Value.int _ from congrArg Value.int (iI_b32 _ x y)] at e9
    exact e9
  all_goals cases h
theorem sn_ishr {nx : Nat} (hd : decode cc bpc = .ok (.ishr, 1)) (hn : pcs nx = bpc + 1) : pSnd yn wk own cc nL ret pcs bpc (s_bin jshr nx) := by
  intro p l e R s m args below meth c G ad cA A H0 kc ks Q ⟨hx, hb, hml, hown, hts, hnw, hK, hkc, hks, hfr, hlo, hH0, hRO⟩ hA hR X Y hX hY ls st M r h H locs arr hW hl
  unfold s_bin at h
  rcases st with _ | ⟨y | y, _ | ⟨x | x, rest⟩⟩
  · cases h
  · cases h
  · refine lv_ishr hx hb hd ?_
    rw [← hn]
    have e9 := hX _ _ _ _ _ h _ _ _ hW hl
    rw [List.map_cons, show ptv ad (.inl (jshr x y)) = Value.int _ from congrArg Value.int (iI_b32 _ x y)] at e9
    exact e9
  all_goals cases h
theorem sn_iushr {nx : Nat} (hd : decode cc bpc = .ok (.iushr, 1)) (hn : pcs nx = bpc + 1) : pSnd yn wk own cc nL ret pcs bpc (s_bin jushr nx) := by
  intro p l e R s m args below meth c G ad cA A H0 kc ks Q ⟨hx, hb, hml, hown, hts, hnw, hK, hkc, hks, hfr, hlo, hH0, hRO⟩ hA hR X Y hX hY ls st M r h H locs arr hW hl
  unfold s_bin at h
  rcases st with _ | ⟨y | y, _ | ⟨x | x, rest⟩⟩
  · cases h
  · cases h
  · refine lv_iushr hx hb hd rfl ?_
    rw [← hn]
    have e9 := hX _ _ _ _ _ h _ _ _ hW hl
    rw [List.map_cons, show ptv ad (.inl (jushr x y)) = Value.int _ from congrArg Value.int (iI_b32 _ x y)] at e9
    exact e9
  all_goals cases h
theorem sn_idiv {nx : Nat} (hd : decode cc bpc = .ok (.idiv, 1)) (hn : pcs nx = bpc + 1) : pSnd yn wk own cc nL ret pcs bpc (s_div jdiv nx) := by
  intro p l e R s m args below meth c G ad cA A H0 kc ks Q ⟨hx, hb, hml, hown, hts, hnw, hK, hkc, hks, hfr, hlo, hH0, hRO⟩ hA hR X Y hX hY ls st M r h H locs arr hW hl
  unfold s_div at h
  rcases st with _ | ⟨y | y, _ | ⟨x | x, rest⟩⟩
  · cases h
  · cases h
  · dsimp only at h
    split at h
    · cases h
    · rename_i hne
      refine lv_idiv hx hb hd (fun q => hne q) ?_
      rw [← hn]
      have e9 := hX _ _ _ _ _ h _ _ _ hW hl
      rw [List.map_cons, show ptv ad (.inl (jdiv x y)) = Value.int _ from congrArg Value.int (iI_b32 _ x y)] at e9
      exact e9
  all_goals cases h
theorem sn_irem {nx : Nat} (hd : decode cc bpc = .ok (.irem, 1)) (hn : pcs nx = bpc + 1) : pSnd yn wk own cc nL ret pcs bpc (s_div jrem nx) := by
  intro p l e R s m args below meth c G ad cA A H0 kc ks Q ⟨hx, hb, hml, hown, hts, hnw, hK, hkc, hks, hfr, hlo, hH0, hRO⟩ hA hR X Y hX hY ls st M r h H locs arr hW hl
  unfold s_div at h
  rcases st with _ | ⟨y | y, _ | ⟨x | x, rest⟩⟩
  · cases h
  · cases h
  · dsimp only at h
    split at h
    · cases h
    · rename_i hne
      refine lv_irem hx hb hd (fun q => hne q) ?_
      rw [← hn]
      have e9 := hX _ _ _ _ _ h _ _ _ hW hl
      rw [List.map_cons, show ptv ad (.inl (jrem x y)) = Value.int _ from congrArg Value.int (iI_b32 _ x y)] at e9
      exact e9
  all_goals cases h
theorem sn_ineg {nx : Nat} (hd : decode cc bpc = .ok (.ineg, 1)) (hn : pcs nx = bpc + 1) : pSnd yn wk own cc nL ret pcs bpc (s_un (fun x => -x) nx) := by
  intro p l e R s m args below meth c G ad cA A H0 kc ks Q ⟨hx, hb, hml, hown, hts, hnw, hK, hkc, hks, hfr, hlo, hH0, hRO⟩ hA hR X Y hX hY ls st M r h H locs arr hW hl
  unfold s_un at h
  rcases st with _ | ⟨x | x, rest⟩
  · cases h
  · refine lv_ineg hx hb hd ?_
    rw [← hn]
    have e9 := hX _ _ _ _ _ h _ _ _ hW hl
    rw [List.map_cons, show ptv ad (.inl ((fun x => -x) x)) = Value.int _ from congrArg Value.int (Int32.ofInt_neg x)] at e9
    exact e9
  · cases h
theorem sn_i2b {nx : Nat} (hd : decode cc bpc = .ok (.i2b, 1)) (hn : pcs nx = bpc + 1) : pSnd yn wk own cc nL ret pcs bpc (s_un jb nx) := by
  intro p l e R s m args below meth c G ad cA A H0 kc ks Q ⟨hx, hb, hml, hown, hts, hnw, hK, hkc, hks, hfr, hlo, hH0, hRO⟩ hA hR X Y hX hY ls st M r h H locs arr hW hl
  unfold s_un at h
  rcases st with _ | ⟨x | x, rest⟩
  · cases h
  · refine lv_i2b hx hb hd rfl ?_
    rw [← hn]
    have e9 := hX _ _ _ _ _ h _ _ _ hW hl
    rw [List.map_cons, show ptv ad (.inl (jb x)) = Value.int _ from congrArg Value.int (Int32.ofInt_toInt _)] at e9
    exact e9
  · cases h
theorem sn_i2s {nx : Nat} (hd : decode cc bpc = .ok (.i2s, 1)) (hn : pcs nx = bpc + 1) : pSnd yn wk own cc nL ret pcs bpc (s_un js nx) := by
  intro p l e R s m args below meth c G ad cA A H0 kc ks Q ⟨hx, hb, hml, hown, hts, hnw, hK, hkc, hks, hfr, hlo, hH0, hRO⟩ hA hR X Y hX hY ls st M r h H locs arr hW hl
  unfold s_un at h
  rcases st with _ | ⟨x | x, rest⟩
  · cases h
  · refine lv_i2s hx hb hd rfl ?_
    rw [← hn]
    have e9 := hX _ _ _ _ _ h _ _ _ hW hl
    rw [List.map_cons, show ptv ad (.inl (js x)) = Value.int _ from congrArg Value.int (Int32.ofInt_toInt _)] at e9
    exact e9
  · cases h
theorem sn_i2c {nx : Nat} (hd : decode cc bpc = .ok (.i2c, 1)) (hn : pcs nx = bpc + 1) : pSnd yn wk own cc nL ret pcs bpc (s_un jc nx) := by
  intro p l e R s m args below meth c G ad cA A H0 kc ks Q ⟨hx, hb, hml, hown, hts, hnw, hK, hkc, hks, hfr, hlo, hH0, hRO⟩ hA hR X Y hX hY ls st M r h H locs arr hW hl
  unfold s_un at h
  rcases st with _ | ⟨x | x, rest⟩
  · cases h
  · refine lv_i2c hx hb hd rfl ?_
    rw [← hn]
    have e9 := hX _ _ _ _ _ h _ _ _ hW hl
    rw [List.map_cons, show ptv ad (.inl (jc x)) = Value.int _ from congrArg Value.int (Int32.ofInt_toInt _)] at e9
    exact e9
  · cases h
theorem sn_iinc {i nx : Nat} {n : Int} (hd : decode cc bpc = .ok (.iinc i n, 3)) (hi : i < nL) (hn : pcs nx = bpc + 3) : pSnd yn wk own cc nL ret pcs bpc (s_inc i n nx) := by
  intro p l e R s m args below meth c G ad cA A H0 kc ks Q ⟨hx, hb, hml, hown, hts, hnw, hK, hkc, hks, hfr, hlo, hH0, hRO⟩ hA hR X Y hX hY ls st M r h H locs arr hW hl
  unfold s_inc at h
  cases hv : ls.getD i (.inr 0) with
  | inr k => rw [hv] at h; cases h
  | inl x =>
    rw [hv] at h
    obtain ⟨h1, h2⟩ := pLs_at hl hv (fun q => by cases q)
    obtain ⟨k, hk⟩ := List.mem_iff_getElem?.mp (pprs_mem.mpr ⟨.inl x, h2, (fun q => by cases q), rfl⟩ : (i, ptv ad (.inl x)) ∈ pprs ad ls)
    refine lv_iinc (v := iI (x + n)) hx hb hd (pLs_has hl) hk (Int32.ofInt_add x n).symm hi rfl (fun ls' hl' => ?_)
    rw [← hn]
    exact hX _ _ _ _ _ h _ _ _ hW (pLs_st (v := .inl (x + n)) hl rfl hl')
theorem sn_if_eq {off : Int} {tgt nx : Nat} (hd : decode cc bpc = .ok (.ifCond .eq off, 3)) (ht : (bpc : Int) + off = (pcs tgt : Int)) (hn : pcs nx = bpc + 3) : pSnd yn wk own cc nL ret pcs bpc (s_if (fun x => eq32 x 0) (fun _ => inferInstance) tgt nx) := by
  intro p l e R s m args below meth c G ad cA A H0 kc ks Q ⟨hx, hb, hml, hown, hts, hnw, hK, hkc, hks, hfr, hlo, hH0, hRO⟩ hA hR X Y hX hY ls st M r h H locs arr hW hl
  unfold s_if at h
  rcases st with _ | ⟨x | x, rest⟩
  · cases h
  · dsimp only at h
    refine lv_if_eq hx hb hd ht (fun q => ?_) (fun q => ?_)
    · rw [if_pos (show eq32 x 0 from q)] at h
      exact hX _ _ _ _ _ h _ _ _ hW hl
    · rw [if_neg (show ¬ (eq32 x 0) from q)] at h
      rw [← hn]
      exact hX _ _ _ _ _ h _ _ _ hW hl
  · cases h
theorem sn_icmp_eq {off : Int} {tgt nx : Nat} (hd : decode cc bpc = .ok (.if_icmp .eq off, 3)) (ht : (bpc : Int) + off = (pcs tgt : Int)) (hn : pcs nx = bpc + 3) : pSnd yn wk own cc nL ret pcs bpc (s_if2 (fun x y => eq32 x y) (fun _ _ => inferInstance) tgt nx) := by
  intro p l e R s m args below meth c G ad cA A H0 kc ks Q ⟨hx, hb, hml, hown, hts, hnw, hK, hkc, hks, hfr, hlo, hH0, hRO⟩ hA hR X Y hX hY ls st M r h H locs arr hW hl
  unfold s_if2 at h
  rcases st with _ | ⟨y | y, _ | ⟨x | x, rest⟩⟩
  · cases h
  · cases h
  · dsimp only at h
    refine lv_icmp_eq hx hb hd ht (fun q => ?_) (fun q => ?_)
    · rw [if_pos (show eq32 x y from q)] at h
      exact hX _ _ _ _ _ h _ _ _ hW hl
    · rw [if_neg (show ¬ (eq32 x y) from q)] at h
      rw [← hn]
      exact hX _ _ _ _ _ h _ _ _ hW hl
  all_goals cases h
theorem sn_if_ne {off : Int} {tgt nx : Nat} (hd : decode cc bpc = .ok (.ifCond .ne off, 3)) (ht : (bpc : Int) + off = (pcs tgt : Int)) (hn : pcs nx = bpc + 3) : pSnd yn wk own cc nL ret pcs bpc (s_if (fun x => ¬ eq32 x 0) (fun _ => inferInstance) tgt nx) := by
  intro p l e R s m args below meth c G ad cA A H0 kc ks Q ⟨hx, hb, hml, hown, hts, hnw, hK, hkc, hks, hfr, hlo, hH0, hRO⟩ hA hR X Y hX hY ls st M r h H locs arr hW hl
  unfold s_if at h
  rcases st with _ | ⟨x | x, rest⟩
  · cases h
  · dsimp only at h
    refine lv_if_ne hx hb hd ht (fun q => ?_) (fun q => ?_)
    · rw [if_pos (show ¬ eq32 x 0 from q)] at h
      exact hX _ _ _ _ _ h _ _ _ hW hl
    · rw [if_neg (show ¬ (¬ eq32 x 0) from fun n => n q)] at h
      rw [← hn]
      exact hX _ _ _ _ _ h _ _ _ hW hl
  · cases h
theorem sn_icmp_ne {off : Int} {tgt nx : Nat} (hd : decode cc bpc = .ok (.if_icmp .ne off, 3)) (ht : (bpc : Int) + off = (pcs tgt : Int)) (hn : pcs nx = bpc + 3) : pSnd yn wk own cc nL ret pcs bpc (s_if2 (fun x y => ¬ eq32 x y) (fun _ _ => inferInstance) tgt nx) := by
  intro p l e R s m args below meth c G ad cA A H0 kc ks Q ⟨hx, hb, hml, hown, hts, hnw, hK, hkc, hks, hfr, hlo, hH0, hRO⟩ hA hR X Y hX hY ls st M r h H locs arr hW hl
  unfold s_if2 at h
  rcases st with _ | ⟨y | y, _ | ⟨x | x, rest⟩⟩
  · cases h
  · cases h
  · dsimp only at h
    refine lv_icmp_ne hx hb hd ht (fun q => ?_) (fun q => ?_)
    · rw [if_pos (show ¬ eq32 x y from q)] at h
      exact hX _ _ _ _ _ h _ _ _ hW hl
    · rw [if_neg (show ¬ (¬ eq32 x y) from fun n => n q)] at h
      rw [← hn]
      exact hX _ _ _ _ _ h _ _ _ hW hl
  all_goals cases h
theorem sn_if_lt {off : Int} {tgt nx : Nat} (hd : decode cc bpc = .ok (.ifCond .lt off, 3)) (ht : (bpc : Int) + off = (pcs tgt : Int)) (hn : pcs nx = bpc + 3) : pSnd yn wk own cc nL ret pcs bpc (s_if (fun x => lt32 x 0) (fun _ => inferInstance) tgt nx) := by
  intro p l e R s m args below meth c G ad cA A H0 kc ks Q ⟨hx, hb, hml, hown, hts, hnw, hK, hkc, hks, hfr, hlo, hH0, hRO⟩ hA hR X Y hX hY ls st M r h H locs arr hW hl
  unfold s_if at h
  rcases st with _ | ⟨x | x, rest⟩
  · cases h
  · dsimp only at h
    refine lv_if_lt hx hb hd ht (fun q => ?_) (fun q => ?_)
    · rw [if_pos (show lt32 x 0 from q)] at h
      exact hX _ _ _ _ _ h _ _ _ hW hl
    · rw [if_neg (show ¬ (lt32 x 0) from q)] at h
      rw [← hn]
      exact hX _ _ _ _ _ h _ _ _ hW hl
  · cases h
theorem sn_icmp_lt {off : Int} {tgt nx : Nat} (hd : decode cc bpc = .ok (.if_icmp .lt off, 3)) (ht : (bpc : Int) + off = (pcs tgt : Int)) (hn : pcs nx = bpc + 3) : pSnd yn wk own cc nL ret pcs bpc (s_if2 (fun x y => lt32 x y) (fun _ _ => inferInstance) tgt nx) := by
  intro p l e R s m args below meth c G ad cA A H0 kc ks Q ⟨hx, hb, hml, hown, hts, hnw, hK, hkc, hks, hfr, hlo, hH0, hRO⟩ hA hR X Y hX hY ls st M r h H locs arr hW hl
  unfold s_if2 at h
  rcases st with _ | ⟨y | y, _ | ⟨x | x, rest⟩⟩
  · cases h
  · cases h
  · dsimp only at h
    refine lv_icmp_lt hx hb hd ht (fun q => ?_) (fun q => ?_)
    · rw [if_pos (show lt32 x y from q)] at h
      exact hX _ _ _ _ _ h _ _ _ hW hl
    · rw [if_neg (show ¬ (lt32 x y) from q)] at h
      rw [← hn]
      exact hX _ _ _ _ _ h _ _ _ hW hl
  all_goals cases h
theorem sn_if_ge {off : Int} {tgt nx : Nat} (hd : decode cc bpc = .ok (.ifCond .ge off, 3)) (ht : (bpc : Int) + off = (pcs tgt : Int)) (hn : pcs nx = bpc + 3) : pSnd yn wk own cc nL ret pcs bpc (s_if (fun x => le32 0 x) (fun _ => inferInstance) tgt nx) := by
  intro p l e R s m args below meth c G ad cA A H0 kc ks Q ⟨hx, hb, hml, hown, hts, hnw, hK, hkc, hks, hfr, hlo, hH0, hRO⟩ hA hR X Y hX hY ls st M r h H locs arr hW hl
  unfold s_if at h
  rcases st with _ | ⟨x | x, rest⟩
  · cases h
  · dsimp only at h
    refine lv_if_ge hx hb hd ht (fun q => ?_) (fun q => ?_)
    · rw [if_pos (show le32 0 x from q)] at h
      exact hX _ _ _ _ _ h _ _ _ hW hl
    · rw [if_neg (show ¬ (le32 0 x) from q)] at h
      rw [← hn]
      exact hX _ _ _ _ _ h _ _ _ hW hl
  · cases h
theorem sn_icmp_ge {off : Int} {tgt nx : Nat} (hd : decode cc bpc = .ok (.if_icmp .ge off, 3)) (ht : (bpc : Int) + off = (pcs tgt : Int)) (hn : pcs nx = bpc + 3) : pSnd yn wk own cc nL ret pcs bpc (s_if2 (fun x y => le32 y x) (fun _ _ => inferInstance) tgt nx) := by
  intro p l e R s m args below meth c G ad cA A H0 kc ks Q ⟨hx, hb, hml, hown, hts, hnw, hK, hkc, hks, hfr, hlo, hH0, hRO⟩ hA hR X Y hX hY ls st M r h H locs arr hW hl
  unfold s_if2 at h
  rcases st with _ | ⟨y | y, _ | ⟨x | x, rest⟩⟩
  · cases h
  · cases h
  · dsimp only at h
    refine lv_icmp_ge hx hb hd ht (fun q => ?_) (fun q => ?_)
    · rw [if_pos (show le32 y x from q)] at h
      exact hX _ _ _ _ _ h _ _ _ hW hl
    · rw [if_neg (show ¬ (le32 y x) from q)] at h
      rw [← hn]
      exact hX _ _ _ _ _ h _ _ _ hW hl
  all_goals cases h
theorem sn_if_gt {off : Int} {tgt nx : Nat} (hd : decode cc bpc = .ok (.ifCond .gt off, 3)) (ht : (bpc : Int) + off = (pcs tgt : Int)) (hn : pcs nx = bpc + 3) : pSnd yn wk own cc nL ret pcs bpc (s_if (fun x => lt32 0 x) (fun _ => inferInstance) tgt nx) := by
  intro p l e R s m args below meth c G ad cA A H0 kc ks Q ⟨hx, hb, hml, hown, hts, hnw, hK, hkc, hks, hfr, hlo, hH0, hRO⟩ hA hR X Y hX hY ls st M r h H locs arr hW hl
  unfold s_if at h
  rcases st with _ | ⟨x | x, rest⟩
  · cases h
  · dsimp only at h
    refine lv_if_gt hx hb hd ht (fun q => ?_) (fun q => ?_)
    · rw [if_pos (show lt32 0 x from q)] at h
      exact hX _ _ _ _ _ h _ _ _ hW hl
    · rw [if_neg (show ¬ (lt32 0 x) from q)] at h
      rw [← hn]
      exact hX _ _ _ _ _ h _ _ _ hW hl
  · cases h
theorem sn_icmp_gt {off : Int} {tgt nx : Nat} (hd : decode cc bpc = .ok (.if_icmp .gt off, 3)) (ht : (bpc : Int) + off = (pcs tgt : Int)) (hn : pcs nx = bpc + 3) : pSnd yn wk own cc nL ret pcs bpc (s_if2 (fun x y => lt32 y x) (fun _ _ => inferInstance) tgt nx) := by
  intro p l e R s m args below meth c G ad cA A H0 kc ks Q ⟨hx, hb, hml, hown, hts, hnw, hK, hkc, hks, hfr, hlo, hH0, hRO⟩ hA hR X Y hX hY ls st M r h H locs arr hW hl
  unfold s_if2 at h
  rcases st with _ | ⟨y | y, _ | ⟨x | x, rest⟩⟩
  · cases h
  · cases h
  · dsimp only at h
    refine lv_icmp_gt hx hb hd ht (fun q => ?_) (fun q => ?_)
    · rw [if_pos (show lt32 y x from q)] at h
      exact hX _ _ _ _ _ h _ _ _ hW hl
    · rw [if_neg (show ¬ (lt32 y x) from q)] at h
      rw [← hn]
      exact hX _ _ _ _ _ h _ _ _ hW hl
  all_goals cases h
theorem sn_if_le {off : Int} {tgt nx : Nat} (hd : decode cc bpc = .ok (.ifCond .le off, 3)) (ht : (bpc : Int) + off = (pcs tgt : Int)) (hn : pcs nx = bpc + 3) : pSnd yn wk own cc nL ret pcs bpc (s_if (fun x => le32 x 0) (fun _ => inferInstance) tgt nx) := by
  intro p l e R s m args below meth c G ad cA A H0 kc ks Q ⟨hx, hb, hml, hown, hts, hnw, hK, hkc, hks, hfr, hlo, hH0, hRO⟩ hA hR X Y hX hY ls st M r h H locs arr hW hl
  unfold s_if at h
  rcases st with _ | ⟨x | x, rest⟩
  · cases h
  · dsimp only at h
    refine lv_if_le hx hb hd ht (fun q => ?_) (fun q => ?_)
    · rw [if_pos (show le32 x 0 from q)] at h
      exact hX _ _ _ _ _ h _ _ _ hW hl
    · rw [if_neg (show ¬ (le32 x 0) from q)] at h
      rw [← hn]
      exact hX _ _ _ _ _ h _ _ _ hW hl
  · cases h
theorem sn_icmp_le {off : Int} {tgt nx : Nat} (hd : decode cc bpc = .ok (.if_icmp .le off, 3)) (ht : (bpc : Int) + off = (pcs tgt : Int)) (hn : pcs nx = bpc + 3) : pSnd yn wk own cc nL ret pcs bpc (s_if2 (fun x y => le32 x y) (fun _ _ => inferInstance) tgt nx) := by
  intro p l e R s m args below meth c G ad cA A H0 kc ks Q ⟨hx, hb, hml, hown, hts, hnw, hK, hkc, hks, hfr, hlo, hH0, hRO⟩ hA hR X Y hX hY ls st M r h H locs arr hW hl
  unfold s_if2 at h
  rcases st with _ | ⟨y | y, _ | ⟨x | x, rest⟩⟩
  · cases h
  · cases h
  · dsimp only at h
    refine lv_icmp_le hx hb hd ht (fun q => ?_) (fun q => ?_)
    · rw [if_pos (show le32 x y from q)] at h
      exact hX _ _ _ _ _ h _ _ _ hW hl
    · rw [if_neg (show ¬ (le32 x y) from q)] at h
      rw [← hn]
      exact hX _ _ _ _ _ h _ _ _ hW hl
  all_goals cases h
theorem sn_goto {off : Int} {tgt : Nat} (hd : decode cc bpc = .ok (.goto off, 3)) (ht : (bpc : Int) + off = (pcs tgt : Int)) : pSnd yn wk own cc nL ret pcs bpc (s_goto tgt) := by
  intro p l e R s m args below meth c G ad cA A H0 kc ks Q ⟨hx, hb, hml, hown, hts, hnw, hK, hkc, hks, hfr, hlo, hH0, hRO⟩ hA hR X Y hX hY ls st M r h H locs arr hW hl
  exact lv_goto hx hb hd ht (hX _ _ _ _ _ h _ _ _ hW hl)
theorem sn_getf {ci k nx idx N : Nat} {C ref : String} {T : u_T} (hc : pcl[ci]? = some (C, T, N)) (hin : ∀ w ∈ u_ws C T N, w ∈ pws) (hci : ci < 100) (hk : k < N) (hnf : nfld ci = N) (hlk : Cond.fieldLink own idx ref (T k).2.1 (T k).2.2.1 ∈ pws) (href : (T k).1 = ref) (hd : decode cc bpc = .ok (.getfield idx, 3)) (hn : pcs nx = bpc + 3) : pSnd yn wk own cc nL ret pcs bpc (s_getf ci k nx) := by
  intro p l e R s m args below meth c G ad cA A H0 kc ks Q ⟨hx, hb, hml, hown, hts, hnw, hK, hkc, hks, hfr, hlo, hH0, hRO⟩ hA hR X Y hX hY ls st M r h H locs arr hW hl
  unfold s_getf at h
  rcases st with _ | ⟨x | _ | _ | o, rest⟩
  · cases h
  · cases h
  · cases h
  · cases h
  · dsimp only at h
    cases hk9 : Nat.beq (pK o) ci with
    | false => rw [hk9] at h; cases h
    | true =>
      rw [hk9] at h
      have hko : pK o = ci := Nat.eq_of_beq_eq_true hk9
      have ho : o < pN := pK_lt (by omega)
      have hat : (pW ad cA M)[o]? = some (ad o, .inr (ci, (List.range N).map fun k => ptv ad (pfv o k M))) := by
        rw [pW_at ad cA M ho]; unfold pEn
        rw [if_pos (by omega : pK o < 100), pL_fld (by omega), hko, hnf]
      refine va_get (D := G) (cl := pcl) (ci := ci) (v := ptv ad (pfv o k M)) (C := C) (T := T) (N := N) hx hb hts hin hown hK hW.1 o hat hc k hk (hts _ hlk) (fun _ h9 => by rw [← href]; exact h9) (by rw [List.getElem?_map, List.getElem?_range hk]; rfl) hd ?_
      rw [← hn]
      exact hX _ _ _ _ _ h _ _ _ hW hl
theorem p_range_set {α : Type} {f g : Nat → α} {n k : Nat} {x : α} (hk : k < n) (h1 : ∀ j, j ≠ k → g j = f j) (h2 : g k = x) : (List.range n).map g = ((List.range n).map f).set k x := by
  apply List.ext_getElem?
  intro j
  rw [List.getElem?_set, List.length_map, List.length_range, List.getElem?_map, List.getElem?_map]
  by_cases e : k = j
  · subst e
    rw [if_pos rfl, if_pos hk, List.getElem?_range hk]
    exact congrArg some h2
  · rw [if_neg e]
    rcases Nat.lt_or_ge j n with q | q
    · rw [List.getElem?_range q]; exact congrArg some (h1 j (fun z => e z.symm))
    · rw [List.getElem?_eq_none (by rw [List.length_range]; exact q)]; rfl
theorem iI_z {v : Int} (h : v = 0 ∨ v = 1) : narrow .boolean (.int (iI v)) = .int (iI v) ∧ fits .boolean (.int (iI v)) = true ∧ vp_nar .boolean (iI v) = iI v ∧ narrow .byte (.int (iI v)) = .int (iI v) := by
  rcases h with rfl | rfl <;> exact ⟨by decide +kernel, by decide +kernel, by decide +kernel, by decide +kernel⟩
theorem sn_puti {ci k nx idx N : Nat} {C ref : String} {T : u_T} (hc : pcl[ci]? = some (C, T, N)) (hin : ∀ w ∈ u_ws C T N, w ∈ pws) (hci : ci < 100) (hk : k < N) (hnf : nfld ci = N) (ty0 : Nat → FieldType) (hty : ∀ k, k < N → parseFieldDescriptor (T k).2.2.1 = some (ty0 k)) (hnm : ∀ a, a < N → ∀ b, b < N → a ≠ b → (T a).2.1 ≠ (T b).2.1) (hfin : (T k).2.2.2 = false) (hfk : pFk ci k = 0) (hds : parseFieldDescriptor (T k).2.2.1 = some .int) (hlk : Cond.fieldLink own idx ref (T k).2.1 (T k).2.2.1 ∈ pws) (href : (T k).1 = ref) (hd : decode cc bpc = .ok (.putfield idx, 3)) (hn : pcs nx = bpc + 3) : pSnd yn wk own cc nL ret pcs bpc (s_puti ci k nx) := by
  intro p l e R s m args below meth c G ad cA A H0 kc ks Q ⟨hx, hb, hml, hown, hts, hnw, hK, hkc, hks, hfr, hlo, hH0, hRO⟩ hA hR X Y hX hY ls st M r h H locs arr hW hl
  unfold s_puti at h
  rcases st with _ | ⟨v | v, _ | ⟨x | _ | _ | o, rest⟩⟩
  · cases h
  · cases h
  · cases h
  · cases h
  · cases h
  · dsimp only at h
    cases hk9 : Nat.beq (pK o) ci with
    | false => rw [hk9] at h; cases h
    | true =>
      rw [hk9] at h
      have hko : pK o = ci := Nat.eq_of_beq_eq_true hk9
      have ho : o < pN := pK_lt (by omega)
      have hat : (pW ad cA M)[o]? = some (ad o, .inr (ci, (List.range N).map fun k => ptv ad (pfv o k M))) := by
        rw [pW_at ad cA M ho]; unfold pEn
        rw [if_pos (by omega : pK o < 100), pL_fld (by omega), hko, hnf]
      have hse : pEn ad cA (pset M o k v) o = (ad o, .inr (ci, ((List.range N).map fun k => ptv ad (pfv o k M)).set k (.int (iI v)))) := by
        unfold pEn
        rw [if_pos (by omega : pK o < 100), pL_fld (by omega), hko, hnf]
        refine congrArg (fun z => (ad o, Sum.inr (ci, z))) (p_range_set hk (fun j hj => ?_) ?_)
        · unfold pfv; rw [pset_ne2 hj]
        · unfold pfv; rw [hko, hfk, pset_eq]; rfl
      refine va_put (D := G) (cl := pcl) (ci := ci) (v := .int (iI v)) (ty := .int) (C := C) (T := T) (N := N) hx hb hts hin ty0 hty hnm hown hK hW.1 hW.2.1 hW.2.2 o hat hc k hk (hts _ hlk) (fun _ h9 => by rw [← href]; exact h9) hfin hds rfl rfl (by rw [List.length_map, List.length_range]; exact hk) hd (fun H1 locs1 hP1 hD1 hS1 => ?_)
      rw [pW_set (M' := pset M o k v) (fun o' i hne => pset_ne hne) hse] at hP1 hD1
      rw [← hn]
      exact hX _ _ _ _ _ h _ _ _ ⟨hP1, hD1, hS1⟩ hl
  all_goals cases h
theorem sn_putz {ci k nx idx N : Nat} {C ref : String} {T : u_T} (hc : pcl[ci]? = some (C, T, N)) (hin : ∀ w ∈ u_ws C T N, w ∈ pws) (hci : ci < 100) (hk : k < N) (hnf : nfld ci = N) (ty0 : Nat → FieldType) (hty : ∀ k, k < N → parseFieldDescriptor (T k).2.2.1 = some (ty0 k)) (hnm : ∀ a, a < N → ∀ b, b < N → a ≠ b → (T a).2.1 ≠ (T b).2.1) (hfin : (T k).2.2.2 = false) (hfk : pFk ci k = 1) (hds : parseFieldDescriptor (T k).2.2.1 = some .boolean) (hlk : Cond.fieldLink own idx ref (T k).2.1 (T k).2.2.1 ∈ pws) (href : (T k).1 = ref) (hd : decode cc bpc = .ok (.putfield idx, 3)) (hn : pcs nx = bpc + 3) : pSnd yn wk own cc nL ret pcs bpc (s_putz ci k nx) := by
  intro p l e R s m args below meth c G ad cA A H0 kc ks Q ⟨hx, hb, hml, hown, hts, hnw, hK, hkc, hks, hfr, hlo, hH0, hRO⟩ hA hR X Y hX hY ls st M r h H locs arr hW hl
  unfold s_putz at h
  rcases st with _ | ⟨v | v, _ | ⟨x | _ | _ | o, rest⟩⟩
  · cases h
  · cases h
  · cases h
  · cases h
  · cases h
  · dsimp only at h
    cases hk9 : Nat.beq (pK o) ci with
    | false => rw [hk9] at h; cases h
    | true =>
      rw [hk9] at h
      have hv01 : v = 0 ∨ v = 1 := by
        dsimp only [cond_true] at h
        split at h
        · assumption
        · cases h
      rw [cond_true, if_pos hv01] at h
      have hko : pK o = ci := Nat.eq_of_beq_eq_true hk9
      have ho : o < pN := pK_lt (by omega)
      have hat : (pW ad cA M)[o]? = some (ad o, .inr (ci, (List.range N).map fun k => ptv ad (pfv o k M))) := by
        rw [pW_at ad cA M ho]; unfold pEn
        rw [if_pos (by omega : pK o < 100), pL_fld (by omega), hko, hnf]
      have hse : pEn ad cA (pset M o k v) o = (ad o, .inr (ci, ((List.range N).map fun k => ptv ad (pfv o k M)).set k (.int (iI v)))) := by
        unfold pEn
        rw [if_pos (by omega : pK o < 100), pL_fld (by omega), hko, hnf]
        refine congrArg (fun z => (ad o, Sum.inr (ci, z))) (p_range_set hk (fun j hj => ?_) ?_)
        · unfold pfv; rw [pset_ne2 hj]
        · unfold pfv; rw [hko, hfk, pset_eq]; rfl
      refine va_put (D := G) (cl := pcl) (ci := ci) (v := .int (iI v)) (ty := .boolean) (C := C) (T := T) (N := N) hx hb hts hin ty0 hty hnm hown hK hW.1 hW.2.1 hW.2.2 o hat hc k hk (hts _ hlk) (fun _ h9 => by rw [← href]; exact h9) hfin hds (iI_z hv01).1 (iI_z hv01).2.1 (by rw [List.length_map, List.length_range]; exact hk) hd (fun H1 locs1 hP1 hD1 hS1 => ?_)
      rw [pW_set (M' := pset M o k v) (fun o' i hne => pset_ne hne) hse] at hP1 hD1
      rw [← hn]
      exact hX _ _ _ _ _ h _ _ _ ⟨hP1, hD1, hS1⟩ hl
  all_goals cases h
theorem sn_putr {ci k tk nx idx N : Nat} {C ref : String} {T : u_T} {ety : FieldType} (hc : pcl[ci]? = some (C, T, N)) (hin : ∀ w ∈ u_ws C T N, w ∈ pws) (hci : ci < 100) (hk : k < N) (hnf : nfld ci = N) (ty0 : Nat → FieldType) (hty : ∀ k, k < N → parseFieldDescriptor (T k).2.2.1 = some (ty0 k)) (hnm : ∀ a, a < N → ∀ b, b < N → a ≠ b → (T a).2.1 ≠ (T b).2.1) (hfin : (T k).2.2.2 = false) (hfk : pFk ci k = 3) (hds : parseFieldDescriptor (T k).2.2.1 = some (.array ety)) (hlk : Cond.fieldLink own idx ref (T k).2.1 (T k).2.2.1 ∈ pws) (href : (T k).1 = ref) (hd : decode cc bpc = .ok (.putfield idx, 3)) (hn : pcs nx = bpc + 3) : pSnd yn wk own cc nL ret pcs bpc (s_putr ci k tk nx) := by
  intro p l e R s m args below meth c G ad cA A H0 kc ks Q ⟨hx, hb, hml, hown, hts, hnw, hK, hkc, hks, hfr, hlo, hH0, hRO⟩ hA hR X Y hX hY ls st M r h H locs arr hW hl
  unfold s_putr at h
  rcases st with _ | ⟨v | _ | _ | v, _ | ⟨x | _ | _ | o, rest⟩⟩
  any_goals cases h
  dsimp only at h
  cases hk9 : (Nat.beq (pK o) ci && Nat.beq (pK v) tk) with
  | false => rw [hk9] at h; cases h
  | true =>
    rw [hk9] at h
    have hko : pK o = ci := Nat.eq_of_beq_eq_true (Bool.and_eq_true_iff.mp hk9).1
    have ho : o < pN := pK_lt (by omega)
    have hat : (pW ad cA M)[o]? = some (ad o, .inr (ci, (List.range N).map fun k => ptv ad (pfv o k M))) := by
      rw [pW_at ad cA M ho]; unfold pEn
      rw [if_pos (by omega : pK o < 100), pL_fld (by omega), hko, hnf]
    have hse : pEn ad cA (pset M o k (Int.ofNat (v + 2))) o = (ad o, .inr (ci, ((List.range N).map fun k => ptv ad (pfv o k M)).set k (.ref (ad v)))) := by
      unfold pEn
      rw [if_pos (by omega : pK o < 100), pL_fld (by omega), hko, hnf]
      refine congrArg (fun z => (ad o, Sum.inr (ci, z))) (p_range_set hk (fun j hj => ?_) ?_)
      · unfold pfv; rw [pset_ne2 hj]
      · unfold pfv; rw [hko, hfk, pset_eq]; rfl
    refine va_put (D := G) (cl := pcl) (ci := ci) (v := .ref (ad v)) (ty := .array ety) (C := C) (T := T) (N := N) hx hb hts hin ty0 hty hnm hown hK hW.1 hW.2.1 hW.2.2 o hat hc k hk (hts _ hlk) (fun _ h9 => by rw [← href]; exact h9) hfin hds rfl rfl (by rw [List.length_map, List.length_range]; exact hk) hd (fun H1 locs1 hP1 hD1 hS1 => ?_)
    rw [pW_set (M' := pset M o k (Int.ofNat (v + 2))) (fun o' i hne => pset_ne hne) hse] at hP1 hD1
    rw [← hn]
    exact hX _ _ _ _ _ h _ _ _ ⟨hP1, hD1, hS1⟩ hl
theorem ptys_at (cA : Nat → ClassId) {o : Nat} (h : 100 ≤ pK o) (h2 : pK o ≠ 104) : ∃ t0 : Nat, (ptys cA)[t0]? = some (cA o, pty o) := by
  obtain ⟨t0, ht⟩ := List.mem_iff_getElem?.mp (pArr_ok o (pK_lt h2) h)
  exact ⟨t0, by unfold ptys; rw [List.getElem?_map, ht]; rfl⟩
theorem pW_int {ad : Nat → Nat} {cA : Nat → ClassId} {M : pM} {o kd : Nat} (h : pK o = kd) (h1 : 100 ≤ kd) (h2 : kd < 103) : (pW ad cA M)[o]? = some (ad o, .inl (cA o, pL o, .inl fun i => iI (M o i))) := by
  rw [pW_at ad cA M (pK_lt (by omega))]; unfold pEn
  rw [if_neg (by omega), if_neg (by omega), if_neg (by omega)]
theorem sn_iald {nx : Nat} (hd : decode cc bpc = .ok (.iaload, 1)) (hn : pcs nx = bpc + 1) : pSnd yn wk own cc nL ret pcs bpc (s_get 100 nx) := by
  intro p l e R s m args below meth c G ad cA A H0 kc ks Q ⟨hx, hb, hml, hown, hts, hnw, hK, hkc, hks, hfr, hlo, hH0, hRO⟩ hA hR X Y hX hY ls st M r h H locs arr hW hl
  unfold s_get at h
  rcases st with _ | ⟨i | i, _ | ⟨x | _ | _ | o, rest⟩⟩
  any_goals cases h
  dsimp only at h
  cases hk9 : Nat.beq (pK o) 100 with
  | false => rw [hk9] at h; cases h
  | true =>
    rw [hk9, cond_true] at h
    have hko : pK o = 100 := Nat.eq_of_beq_eq_true hk9
    obtain ⟨hi, h⟩ : (0 ≤ i ∧ i < Int.ofNat (pL o)) ∧ X nx ls (.inl (M o i.toNat) :: rest) M = some r := by
      split at h
      · exact ⟨by assumption, h⟩
      · cases h
    obtain ⟨hin, hcl⟩ := iI_in hi.1 hi.2 (pL_le o)
    obtain ⟨t0, ht0⟩ := ptys_at cA (o := o) (by omega) (by omega)
    refine va_iald hx hb hK hW.1 o t0 (pW_int hko (by omega) (by omega)) (show (ptys cA)[t0]? = some (cA o, .int) by rw [ht0]; unfold pty; rw [hko]; rfl) hin hd ?_
    rw [hcl, ← hn]
    exact hX _ _ _ _ _ h _ _ _ hW hl
theorem sn_bald {nx : Nat} (hd : decode cc bpc = .ok (.baload, 1)) (hn : pcs nx = bpc + 1) : pSnd yn wk own cc nL ret pcs bpc (s_get 101 nx) := by
  intro p l e R s m args below meth c G ad cA A H0 kc ks Q ⟨hx, hb, hml, hown, hts, hnw, hK, hkc, hks, hfr, hlo, hH0, hRO⟩ hA hR X Y hX hY ls st M r h H locs arr hW hl
  unfold s_get at h
  rcases st with _ | ⟨i | i, _ | ⟨x | _ | _ | o, rest⟩⟩
  any_goals cases h
  dsimp only at h
  cases hk9 : Nat.beq (pK o) 101 with
  | false => rw [hk9] at h; cases h
  | true =>
    rw [hk9, cond_true] at h
    have hko : pK o = 101 := Nat.eq_of_beq_eq_true hk9
    obtain ⟨hi, h⟩ : (0 ≤ i ∧ i < Int.ofNat (pL o)) ∧ X nx ls (.inl (M o i.toNat) :: rest) M = some r := by
      split at h
      · exact ⟨by assumption, h⟩
      · cases h
    obtain ⟨hin, hcl⟩ := iI_in hi.1 hi.2 (pL_le o)
    obtain ⟨t0, ht0⟩ := ptys_at cA (o := o) (by omega) (by omega)
    refine va_bald hx hb hK hW.1 o t0 (pW_int hko (by omega) (by omega)) (show (ptys cA)[t0]? = some (cA o, .byte) by rw [ht0]; unfold pty; rw [hko]; rfl) hin hd ?_
    rw [hcl, ← hn]
    exact hX _ _ _ _ _ h _ _ _ hW hl
theorem sn_zald {nx : Nat} (hd : decode cc bpc = .ok (.baload, 1)) (hn : pcs nx = bpc + 1) : pSnd yn wk own cc nL ret pcs bpc (s_get 102 nx) := by
  intro p l e R s m args below meth c G ad cA A H0 kc ks Q ⟨hx, hb, hml, hown, hts, hnw, hK, hkc, hks, hfr, hlo, hH0, hRO⟩ hA hR X Y hX hY ls st M r h H locs arr hW hl
  unfold s_get at h
  rcases st with _ | ⟨i | i, _ | ⟨x | _ | _ | o, rest⟩⟩
  any_goals cases h
  dsimp only at h
  cases hk9 : Nat.beq (pK o) 102 with
  | false => rw [hk9] at h; cases h
  | true =>
    rw [hk9, cond_true] at h
    have hko : pK o = 102 := Nat.eq_of_beq_eq_true hk9
    obtain ⟨hi, h⟩ : (0 ≤ i ∧ i < Int.ofNat (pL o)) ∧ X nx ls (.inl (M o i.toNat) :: rest) M = some r := by
      split at h
      · exact ⟨by assumption, h⟩
      · cases h
    obtain ⟨hin, hcl⟩ := iI_in hi.1 hi.2 (pL_le o)
    obtain ⟨t0, ht0⟩ := ptys_at cA (o := o) (by omega) (by omega)
    refine va_zald hx hb hK hW.1 o t0 (pW_int hko (by omega) (by omega)) (show (ptys cA)[t0]? = some (cA o, .boolean) by rw [ht0]; unfold pty; rw [hko]; rfl) hin hd ?_
    rw [hcl, ← hn]
    exact hX _ _ _ _ _ h _ _ _ hW hl
theorem sn_iast {nx : Nat} (hd : decode cc bpc = .ok (.iastore, 1)) (hn : pcs nx = bpc + 1) : pSnd yn wk own cc nL ret pcs bpc (s_set 100 (fun v => v) nx) := by
  intro p l e R s m args below meth c G ad cA A H0 kc ks Q ⟨hx, hb, hml, hown, hts, hnw, hK, hkc, hks, hfr, hlo, hH0, hRO⟩ hA hR X Y hX hY ls st M r h H locs arr hW hl
  unfold s_set at h
  rcases st with _ | ⟨v | v, _ | ⟨i | i, _ | ⟨x | _ | _ | o, rest⟩⟩⟩
  any_goals cases h
  dsimp only at h
  cases hk9 : Nat.beq (pK o) 100 with
  | false => rw [hk9] at h; cases h
  | true =>
    rw [hk9, cond_true] at h
    have hko : pK o = 100 := Nat.eq_of_beq_eq_true hk9
    obtain ⟨hi, h⟩ : (0 ≤ i ∧ i < Int.ofNat (pL o)) ∧ X nx ls rest (pset M o i.toNat ((fun v => v) v)) = some r := by
      split at h
      · exact ⟨by assumption, h⟩
      · cases h
    obtain ⟨hin, hcl⟩ := iI_in hi.1 hi.2 (pL_le o)
    obtain ⟨t0, ht0⟩ := ptys_at cA (o := o) (by omega) (by omega)
    refine va_iast hx hb hK hW.1 hW.2.1 hW.2.2 o t0 (pW_int hko (by omega) (by omega)) (show (ptys cA)[t0]? = some (cA o, .int) by rw [ht0]; unfold pty; rw [hko]; rfl) hin hd (fun H1 locs1 hP1 hD1 hS1 => ?_)
    rw [hcl] at hP1 hD1
    have hse : pEn ad cA (pset M o i.toNat ((fun v => v) v)) o = (ad o, .inl (cA o, pL o, .inl (upd (fun i => iI (M o i)) i.toNat (iI v)))) := by
      unfold pEn
      rw [if_neg (by omega), if_neg (by omega), if_neg (by omega)]
      refine congrArg (fun z => (ad o, Sum.inl (cA o, pL o, Sum.inl z))) (funext fun j => ?_)
      unfold upd
      by_cases e : j = i.toNat
      · rw [if_pos e, e, pset_eq]
      · rw [if_neg e, pset_ne2 e]
    rw [pW_set (M' := pset M o i.toNat ((fun v => v) v)) (fun o' i hne => pset_ne hne) hse] at hP1 hD1
    rw [← hn]
    exact hX _ _ _ _ _ h _ _ _ ⟨hP1, hD1, hS1⟩ hl
theorem sn_bast {nx : Nat} (hd : decode cc bpc = .ok (.bastore, 1)) (hn : pcs nx = bpc + 1) : pSnd yn wk own cc nL ret pcs bpc (s_set 101 jb nx) := by
  intro p l e R s m args below meth c G ad cA A H0 kc ks Q ⟨hx, hb, hml, hown, hts, hnw, hK, hkc, hks, hfr, hlo, hH0, hRO⟩ hA hR X Y hX hY ls st M r h H locs arr hW hl
  unfold s_set at h
  rcases st with _ | ⟨v | v, _ | ⟨i | i, _ | ⟨x | _ | _ | o, rest⟩⟩⟩
  any_goals cases h
  dsimp only at h
  cases hk9 : Nat.beq (pK o) 101 with
  | false => rw [hk9] at h; cases h
  | true =>
    rw [hk9, cond_true] at h
    have hko : pK o = 101 := Nat.eq_of_beq_eq_true hk9
    obtain ⟨hi, h⟩ : (0 ≤ i ∧ i < Int.ofNat (pL o)) ∧ X nx ls rest (pset M o i.toNat (jb v)) = some r := by
      split at h
      · exact ⟨by assumption, h⟩
      · cases h
    obtain ⟨hin, hcl⟩ := iI_in hi.1 hi.2 (pL_le o)
    obtain ⟨t0, ht0⟩ := ptys_at cA (o := o) (by omega) (by omega)
    refine va_bast hx hb hK hW.1 hW.2.1 hW.2.2 o t0 (pW_int hko (by omega) (by omega)) (show (ptys cA)[t0]? = some (cA o, .byte) by rw [ht0]; unfold pty; rw [hko]; rfl) hin hd (fun H1 locs1 hP1 hD1 hS1 => ?_)
    rw [hcl] at hP1 hD1
    have hse : pEn ad cA (pset M o i.toNat (jb v)) o = (ad o, .inl (cA o, pL o, .inl (upd (fun i => iI (M o i)) i.toNat (vp_nar .byte (iI v))))) := by
      unfold pEn
      rw [if_neg (by omega), if_neg (by omega), if_neg (by omega)]
      refine congrArg (fun z => (ad o, Sum.inl (cA o, pL o, Sum.inl z))) (funext fun j => ?_)
      unfold upd
      by_cases e : j = i.toNat
      · rw [if_pos e, e, pset_eq]; exact (Int32.ofInt_toInt _).trans (vp_nar_byte (iI v)).symm
      · rw [if_neg e, pset_ne2 e]
    rw [pW_set (M' := pset M o i.toNat (jb v)) (fun o' i hne => pset_ne hne) hse] at hP1 hD1
    rw [← hn]
    exact hX _ _ _ _ _ h _ _ _ ⟨hP1, hD1, hS1⟩ hl
theorem sn_zast {nx : Nat} (hd : decode cc bpc = .ok (.bastore, 1)) (hn : pcs nx = bpc + 1) : pSnd yn wk own cc nL ret pcs bpc (s_setz nx) := by
  intro p l e R s m args below meth c G ad cA A H0 kc ks Q ⟨hx, hb, hml, hown, hts, hnw, hK, hkc, hks, hfr, hlo, hH0, hRO⟩ hA hR X Y hX hY ls st M r h H locs arr hW hl
  unfold s_setz at h
  rcases st with _ | ⟨v | v, _ | ⟨i | i, _ | ⟨x | _ | _ | o, rest⟩⟩⟩
  any_goals cases h
  dsimp only at h
  cases hk9 : Nat.beq (pK o) 102 with
  | false => rw [hk9] at h; cases h
  | true =>
    rw [hk9, cond_true] at h
    have hko : pK o = 102 := Nat.eq_of_beq_eq_true hk9
    obtain ⟨hi, hv, h⟩ : (0 ≤ i ∧ i < Int.ofNat (pL o)) ∧ (v = 0 ∨ v = 1) ∧ X nx ls rest (pset M o i.toNat v) = some r := by
      split at h
      · rename_i h1
        split at h
        · rename_i h2; exact ⟨h1, h2, h⟩
        · cases h
      · cases h
    obtain ⟨hin, hcl⟩ := iI_in hi.1 hi.2 (pL_le o)
    obtain ⟨t0, ht0⟩ := ptys_at cA (o := o) (by omega) (by omega)
    refine va_zast hx hb hK hW.1 hW.2.1 hW.2.2 o t0 (pW_int hko (by omega) (by omega)) (show (ptys cA)[t0]? = some (cA o, .boolean) by rw [ht0]; unfold pty; rw [hko]; rfl) hin hd (fun H1 locs1 hP1 hD1 hS1 => ?_)
    rw [hcl, (iI_z hv).2.2.1] at hP1 hD1
    have hse : pEn ad cA (pset M o i.toNat v) o = (ad o, .inl (cA o, pL o, .inl (upd (fun i => iI (M o i)) i.toNat (iI v)))) := by
      unfold pEn
      rw [if_neg (by omega), if_neg (by omega), if_neg (by omega)]
      refine congrArg (fun z => (ad o, Sum.inl (cA o, pL o, Sum.inl z))) (funext fun j => ?_)
      unfold upd
      by_cases e : j = i.toNat
      · rw [if_pos e, e, pset_eq]
      · rw [if_neg e, pset_ne2 e]
    rw [pW_set (M' := pset M o i.toNat v) (fun o' i hne => pset_ne hne) hse] at hP1 hD1
    rw [← hn]
    exact hX _ _ _ _ _ h _ _ _ ⟨hP1, hD1, hS1⟩ hl
theorem sn_aald {nx : Nat} (hd : decode cc bpc = .ok (.aaload, 1)) (hn : pcs nx = bpc + 1) : pSnd yn wk own cc nL ret pcs bpc (s_getq nx) := by
  intro p l e R s m args below meth c G ad cA A H0 kc ks Q ⟨hx, hb, hml, hown, hts, hnw, hK, hkc, hks, hfr, hlo, hH0, hRO⟩ hA hR X Y hX hY ls st M r h H locs arr hW hl
  unfold s_getq at h
  rcases st with _ | ⟨i | i, _ | ⟨x | _ | _ | o, rest⟩⟩
  any_goals cases h
  dsimp only at h
  cases hk9 : Nat.beq (pK o) 103 with
  | false => rw [hk9] at h; cases h
  | true =>
    rw [hk9, cond_true] at h
    have hko : pK o = 103 := Nat.eq_of_beq_eq_true hk9
    obtain ⟨hi, h⟩ : (0 ≤ i ∧ i < Int.ofNat (pL o)) ∧ X nx ls (.inr (pFr o i.toNat + 2) :: rest) M = some r := by
      split at h
      · exact ⟨by assumption, h⟩
      · cases h
    obtain ⟨hin, hcl⟩ := iI_in hi.1 hi.2 (pL_le o)
    obtain ⟨t0, ht0⟩ := ptys_at cA (o := o) (by omega) (by omega)
    have hat : (pW ad cA M)[o]? = some (ad o, .inl (cA o, pL o, .inr (.inr (.inr (.inr fun i => some (ad (pFr o i))))))) := by
      rw [pW_at ad cA M (pK_lt (by omega))]; unfold pEn
      rw [if_neg (by omega), if_pos hko]
    refine va_aldq hx hb hK hW.1 o t0 hat (show (ptys cA)[t0]? = some (cA o, .object "SetsStayTogether$Kept") by rw [ht0]; unfold pty; rw [hko]; rfl) hin hd ?_
    rw [hcl, ← hn]
    exact hX _ _ _ _ _ h _ _ _ hW hl
theorem sn_alen {nx : Nat} (hd : decode cc bpc = .ok (.arraylength, 1)) (hn : pcs nx = bpc + 1) : pSnd yn wk own cc nL ret pcs bpc (s_len nx) := by
  intro p l e R s m args below meth c G ad cA A H0 kc ks Q ⟨hx, hb, hml, hown, hts, hnw, hK, hkc, hks, hfr, hlo, hH0, hRO⟩ hA hR X Y hX hY ls st M r h H locs arr hW hl
  unfold s_len at h
  rcases st with _ | ⟨x | _ | _ | o, rest⟩
  any_goals cases h
  dsimp only at h
  cases hk9 : (Nat.ble 100 (pK o) && Nat.ble (pK o) 103) with
  | false => rw [hk9] at h; cases h
  | true =>
    rw [hk9, cond_true] at h
    have h1 : 100 ≤ pK o := Nat.le_of_ble_eq_true (Bool.and_eq_true_iff.mp hk9).1
    have h2 : pK o ≤ 103 := Nat.le_of_ble_eq_true (Bool.and_eq_true_iff.mp hk9).2
    obtain ⟨t0, ht0⟩ := ptys_at cA (o := o) (by omega) (by omega)
    have hat : ∃ x9 : vp_A, x9.1 = pL o ∧ (pW ad cA M)[o]? = some (ad o, .inl (cA o, x9)) := by
      by_cases e : pK o = 103
      · refine ⟨(pL o, .inr (.inr (.inr (.inr fun i => some (ad (pFr o i)))))), rfl, ?_⟩
        rw [pW_at ad cA M (pK_lt (by omega))]; unfold pEn
        rw [if_neg (by omega), if_pos e]
      · exact ⟨_, rfl, pW_int (kd := pK o) rfl (by omega) (by omega)⟩
    obtain ⟨x9, e9, hat⟩ := hat
    refine va_alen hx hb hK hW.1 o t0 hat ht0 (v := iI (Int.ofNat (pL o))) (by rw [e9]; exact Int32.ofInt_eq_ofNat.symm) hd ?_
    rw [← hn]
    exact hX _ _ _ _ _ h _ _ _ hW hl
theorem sn_dup {nx : Nat} (hd : decode cc bpc = .ok (.dup, 1)) (hn : pcs nx = bpc + 1) : pSnd yn wk own cc nL ret pcs bpc (s_dup nx) := by
  intro p l e R s m args below meth c G ad cA A H0 kc ks Q ⟨hx, hb, hml, hown, hts, hnw, hK, hkc, hks, hfr, hlo, hH0, hRO⟩ hA hR X Y hX hY ls st M r h H locs arr hW hl
  unfold s_dup at h
  rcases st with _ | ⟨a, rest⟩
  · cases h
  · refine lv_dup hx hb hd (ptv_cat ad a) ?_
    rw [← hn]
    exact hX _ _ _ _ _ h _ _ _ hW hl
theorem sn_dup2 {nx : Nat} (hd : decode cc bpc = .ok (.dup2, 1)) (hn : pcs nx = bpc + 1) : pSnd yn wk own cc nL ret pcs bpc (s_dup2 nx) := by
  intro p l e R s m args below meth c G ad cA A H0 kc ks Q ⟨hx, hb, hml, hown, hts, hnw, hK, hkc, hks, hfr, hlo, hH0, hRO⟩ hA hR X Y hX hY ls st M r h H locs arr hW hl
  unfold s_dup2 at h
  rcases st with _ | ⟨a, _ | ⟨b, rest⟩⟩
  · cases h
  · cases h
  · refine lv_dup2_11 hx hb hd (ptv_cat ad a) (ptv_cat ad b) ?_
    rw [← hn]
    exact hX _ _ _ _ _ h _ _ _ hW hl
theorem sn_dupx1 {nx : Nat} (hd : decode cc bpc = .ok (.dup_x1, 1)) (hn : pcs nx = bpc + 1) : pSnd yn wk own cc nL ret pcs bpc (s_dupx1 nx) := by
  intro p l e R s m args below meth c G ad cA A H0 kc ks Q ⟨hx, hb, hml, hown, hts, hnw, hK, hkc, hks, hfr, hlo, hH0, hRO⟩ hA hR X Y hX hY ls st M r h H locs arr hW hl
  unfold s_dupx1 at h
  rcases st with _ | ⟨a, _ | ⟨b, rest⟩⟩
  · cases h
  · cases h
  · refine lv_dup_x1 hx hb hd (ptv_cat ad a) (ptv_cat ad b) ?_
    rw [← hn]
    exact hX _ _ _ _ _ h _ _ _ hW hl
theorem sn_pop {nx : Nat} (hd : decode cc bpc = .ok (.pop, 1)) (hn : pcs nx = bpc + 1) : pSnd yn wk own cc nL ret pcs bpc (s_pop nx) := by
  intro p l e R s m args below meth c G ad cA A H0 kc ks Q ⟨hx, hb, hml, hown, hts, hnw, hK, hkc, hks, hfr, hlo, hH0, hRO⟩ hA hR X Y hX hY ls st M r h H locs arr hW hl
  unfold s_pop at h
  rcases st with _ | ⟨a, rest⟩
  · cases h
  · refine lv_pop hx hb hd (ptv_cat ad a) ?_
    rw [← hn]
    exact hX _ _ _ _ _ h _ _ _ hW hl
theorem sn_ifnull {off : Int} {tgt nx : Nat} (hd : decode cc bpc = .ok (.ifnull off, 3)) (ht : (bpc : Int) + off = (pcs tgt : Int)) (hn : pcs nx = bpc + 3) : pSnd yn wk own cc nL ret pcs bpc (s_ifnull tgt nx) := by
  intro p l e R s m args below meth c G ad cA A H0 kc ks Q ⟨hx, hb, hml, hown, hts, hnw, hK, hkc, hks, hfr, hlo, hH0, hRO⟩ hA hR X Y hX hY ls st M r h H locs arr hW hl
  unfold s_ifnull at h
  rcases st with _ | ⟨x | _ | _ | o, rest⟩
  · cases h
  · cases h
  · cases h
  · exact lv_ifnullN hx hb hd ht (hX _ _ _ _ _ h _ _ _ hW hl)
  · refine lv_ifnull hx hb hd ?_
    rw [← hn]
    exact hX _ _ _ _ _ h _ _ _ hW hl
theorem sn_ifnonnull {off : Int} {tgt nx : Nat} (hd : decode cc bpc = .ok (.ifnonnull off, 3)) (ht : (bpc : Int) + off = (pcs tgt : Int)) (hn : pcs nx = bpc + 3) : pSnd yn wk own cc nL ret pcs bpc (s_ifnull nx tgt) := by
  intro p l e R s m args below meth c G ad cA A H0 kc ks Q ⟨hx, hb, hml, hown, hts, hnw, hK, hkc, hks, hfr, hlo, hH0, hRO⟩ hA hR X Y hX hY ls st M r h H locs arr hW hl
  unfold s_ifnull at h
  rcases st with _ | ⟨x | _ | _ | o, rest⟩
  · cases h
  · cases h
  · cases h
  · refine lv_ifnonnullN hx hb hd ?_
    rw [← hn]
    exact hX _ _ _ _ _ h _ _ _ hW hl
  · exact lv_ifnonnull hx hb hd ht (hX _ _ _ _ _ h _ _ _ hW hl)
theorem sn_iret (hr : ret = some .int) (hd : decode cc bpc = .ok (.ireturn, 1)) : pSnd yn wk own cc nL ret pcs bpc (s_iret) := by
  intro p l e R s m args below meth c G ad cA A H0 kc ks Q ⟨hx, hb, hml, hown, hts, hnw, hK, hkc, hks, hfr, hlo, hH0, hRO⟩ hA hR X Y hX hY ls st M r h H locs arr hW hl
  unfold s_iret at h
  rcases st with _ | ⟨x | x, _ | ⟨y, rest⟩⟩
  any_goals cases h
  exact hR.1 hr _ _ _ _ _ _ hd hW
theorem sn_zret (hr : ret = some .boolean ∨ ret = some .byte) (hd : decode cc bpc = .ok (.ireturn, 1)) : pSnd yn wk own cc nL ret pcs bpc (s_zret) := by
  intro p l e R s m args below meth c G ad cA A H0 kc ks Q ⟨hx, hb, hml, hown, hts, hnw, hK, hkc, hks, hfr, hlo, hH0, hRO⟩ hA hR X Y hX hY ls st M r h H locs arr hW hl
  unfold s_zret at h
  rcases st with _ | ⟨x | x, _ | ⟨y, rest⟩⟩
  any_goals cases h
  dsimp only at h
  split at h
  · rename_i h1
    cases h
    exact hR.2.1 hr _ _ _ _ _ _ h1 hd hW
  · cases h
theorem sn_vret (hr : ret = none) (hd : decode cc bpc = .ok (.return_, 1)) : pSnd yn wk own cc nL ret pcs bpc (s_vret) := by
  intro p l e R s m args below meth c G ad cA A H0 kc ks Q ⟨hx, hb, hml, hown, hts, hnw, hK, hkc, hks, hfr, hlo, hH0, hRO⟩ hA hR X Y hX hY ls st M r h H locs arr hW hl
  unfold s_vret at h
  rcases st with _ | ⟨y, rest⟩
  · cases h
    exact hR.2.2.1 hr _ _ _ _ _ hd hW
  · cases h
theorem sn_aret (hr : ∃ n, ret = some (.object n)) (hd : decode cc bpc = .ok (.areturn, 1)) : pSnd yn wk own cc nL ret pcs bpc (s_aret) := by
  intro p l e R s m args below meth c G ad cA A H0 kc ks Q ⟨hx, hb, hml, hown, hts, hnw, hK, hkc, hks, hfr, hlo, hH0, hRO⟩ hA hR X Y hX hY ls st M r h H locs arr hW hl
  unfold s_aret at h
  rcases st with _ | ⟨x | _ | x, _ | ⟨y, rest⟩⟩
  any_goals cases h
  exact hR.2.2.2 hr _ _ _ _ _ _ hd hW
theorem sn_none  : pSnd yn wk own cc nL ret pcs bpc (s_none) := by
  intro p l e R s m args below meth c G ad cA A H0 kc ks Q ⟨hx, hb, hml, hown, hts, hnw, hK, hkc, hks, hfr, hlo, hH0, hRO⟩ hA hR X Y hX hY ls st M r h H locs arr hW hl
  cases h
theorem sn_sw_aux {X : pX} {ls r : List pV} {M : pM} {q9 : pR} {x : Int} {d : Nat} : ∀ {ps : List (Int × Nat)}, ps.foldr (fun q e => if eq32 x q.1 then X q.2 ls r M else e) (X d ls r M) = some q9 →
    (∃ (j : Nat) (q : Int × Nat), ps[j]? = some q ∧ eq32 x q.1 ∧ X q.2 ls r M = some q9) ∨ ((∀ q : Int × Nat, q ∈ ps → ¬ eq32 x q.1) ∧ X d ls r M = some q9)
  | [], h => Or.inr ⟨fun _ h => absurd h List.not_mem_nil, h⟩
  | q :: ps, h => by
    rw [List.foldr_cons] at h
    split at h
    · rename_i h1; exact Or.inl ⟨0, q, rfl, h1, h⟩
    · rename_i h1
      rcases sn_sw_aux h with ⟨j, q2, h2, h3, h4⟩ | ⟨h2, h3⟩
      · exact Or.inl ⟨j + 1, q2, h2, h3, h4⟩
      · exact Or.inr ⟨List.forall_mem_cons.mpr ⟨h1, h2⟩, h3⟩
theorem sn_sw {ps : List (Int × Nat)} {d len : Nat} {dflt lo hi : Int} {offs : Array Int} (hd : decode cc bpc = .ok (.tableswitch dflt lo hi offs, len)) (hb0 : -1000 ≤ lo ∧ hi ≤ 1000) (h1 : ∀ q ∈ ps, lo ≤ q.1 ∧ q.1 ≤ hi ∧ ∃ off, offs[(q.1 - lo).toNat]? = some off ∧ (bpc : Int) + off = (pcs q.2 : Int)) (h2 : ∀ z : Int, lo ≤ z → z ≤ hi → ∃ q ∈ ps, q.1 = z) (ht : (bpc : Int) + dflt = (pcs d : Int)) : pSnd yn wk own cc nL ret pcs bpc (s_sw ps d) := by
  intro p l e R s m args below meth c G ad cA A H0 kc ks Q ⟨hx, hb, hml, hown, hts, hnw, hK, hkc, hks, hfr, hlo, hH0, hRO⟩ hA hR X Y hX hY ls st M r h H locs arr hW hl
  unfold s_sw at h
  rcases st with _ | ⟨x | x, rest⟩
  · cases h
  · rcases sn_sw_aux h with ⟨j, q, hq, he, hx9⟩ | ⟨hno, hx9⟩
    · obtain ⟨g1, g2, off, g3, g4⟩ := h1 q (List.mem_of_getElem? hq)
      have e : (iI x).toInt = q.1 := by
        rw [show iI x = iI q.1 from he]
        exact Int32.toInt_ofInt_of_le (by omega) (by omega)
      refine lv_tableIn hx hb hd (by rw [e]; omega) (by rw [e]; omega) (by rw [e]; exact g3) g4 ?_
      exact hX _ _ _ _ _ hx9 _ _ _ hW hl
    · refine lv_tableOut hx hb hd ?_ ht (hX _ _ _ _ _ hx9 _ _ _ hW hl)
      apply Classical.byContradiction
      intro hc
      obtain ⟨q, hq, e⟩ := h2 (iI x).toInt (by omega) (by omega)
      exact hno q hq (show iI x = iI q.1 by rw [e]; exact (Int32.ofInt_toInt _).symm)
  · cases h
theorem pbk_some {kd : Nat} {o : Option pR} {X : pX} {nx : Nat} {ls r : List pV} {q9 : pR} (h : pbk kd o X nx ls r = some q9) : ∃ q, o = some q ∧ X nx ls (q.1.toList ++ r) q.2 = some q9 := by
  rcases o with _ | ⟨_ | v | _ | k, M⟩
  · rcases kd with _ | _ | kd <;> cases h
  · refine ⟨_, rfl, ?_⟩
    rcases kd with _ | _ | kd
    · exact h
    · cases h
    · cases h
  · refine ⟨_, rfl, ?_⟩
    rcases kd with _ | _ | kd
    · cases h
    · exact h
    · cases h
  · rcases kd with _ | _ | kd <;> cases h
  · refine ⟨_, rfl, ?_⟩
    rcases kd with _ | _ | kd
    · cases h
    · cases h
    · exact h
theorem pcall_go {p : Program} {l : Launch} {e : Env} {R : Room} {s : State} {m : MethodId} {args : Array Value} {below : List Frame} {meth : Method} {c : Code} {H : Heap} {locs : List Loc} {kc ks : Nat} {Q : State → Prop} {pc : Nat} {arr : Array Slot} {st0 rest : List Value} {G : va_G} {ad : Nat → Nat} {cA : Nat → ClassId} {A0 : Nat → Prop} {H0 : Heap} {M : pM} {q : pR} {a : Array Value}
    (hA : ∀ q : Nat, H0.size ≤ q → A0 q) (hW : pWd G ad cA A0 H0 M H locs)
    (hr : va_Run p l e R s m args below meth c H locs kc ks 0 0 (F0 m pc arr st0) rest (pQ G ad cA (va_A (pW ad cA M) H.size) q a) (va_A (pW ad cA M) H.size))
    (kk : ∀ (H1 : Heap) (locs1 : List Loc), pWd G ad cA A0 H0 q.2 H1 locs1 → W p l e R s m args below meth c H1 locs1 kc ks Q (F0 m (pc + 3) arr ((q.1.map (ptv ad)).toList ++ rest))) : W p l e R s m args below meth c H locs kc ks Q (F0 m pc arr st0) := by
  intro T hT X
  obtain ⟨v, st₀, t, T', L, h0, X', hL, e1, e2, ⟨hv, hP1, hF⟩, st⟩ := hr T hT X
  cases hv
  have hin : ∀ z, va_A (pW ad cA M) H.size z → A0 z := by
    rintro z (⟨k, e9, h⟩ | h)
    · exact hW.2.1.2 k _ h
    · exact hA z (Nat.le_trans hW.2.2.1 h)
  obtain ⟨hz, hk⟩ := hF
  rw [h0] at hz hk
  obtain ⟨t2, a1, b1⟩ := kk T'.heap (locs ++ L) ⟨by rw [e1]; exact hP1, pD_of hW.2.1, Nat.le_trans hW.2.2.1 (by rw [e1]; exact hz), fun z h1 h2 => by rw [e1, hk z (Nat.lt_of_lt_of_le h1 hW.2.2.1) (fun y => h2 (hin z y))]; exact hW.2.2.2.1 z h1 h2, fun z hz9 => by
      rcases List.mem_append.mp hz9 with h | h
      · exact hW.2.2.2.2 z h
      · exact hin _ (hL z h)⟩ T' rfl X'
  exact ⟨t2, st t2 a1, b1⟩
/-- what is known of a callee -/
def pCal (yn : Nat → MethodName) (wk : Nat → List Cond) (k n mL : Nat) (bytes : ByteArray) (cret : Option FieldType) : Prop := wk k = Cond.code (yn k) bytes mL cret :: pws ∧ Cond.code (yn k) bytes mL cret ∈ pws ∧ mL ≤ 60 ∧ Cond.initialized (yn k).cls ∈ pws ∧ ((yn k).cls ≠ "java/lang/invoke/MethodHandle" ∧ (yn k).cls ≠ "java/lang/invoke/VarHandle" ∧ (parseMethodDescriptor (yn k).desc).map (fun d => d.parameters.length) = some n)
theorem pGood {w : Cond} (h : w ∈ pws) : w ∈ lw_tbl ∧ goodWord w = true := List.mem_filter.mp h
theorem pGoodIn {yn : Nat → MethodName} {wk : Nat → List Cond} {k n mL : Nat} {bytes : ByteArray} {cret : Option FieldType} (hC : pCal yn wk k n mL bytes cret) : GoodIn pws (wk k) := by
  have hm : ∀ w ∈ wk k, w ∈ pws := by
    intro w hw
    rw [hC.1] at hw
    rcases List.mem_cons.mp hw with rfl | hw
    · exact hC.2.1
    · exact hw
  exact fun w hw => ⟨hm w hw, good_of_word (pGood (hm w hw)).2⟩
theorem pCB {yn : Nat → MethodName} {wk : Nat → List Cond} {k n mL idx : Nat} {bytes : ByteArray} {cret : Option FieldType} {own : String} {R rm : Room} {s : State} {args : Array Value} (hC : pCal yn wk k n mL bytes cret) (hts : ∀ w ∈ pws, w.before args s = true) (hl : Cond.methodLink own idx (yn k) ∈ pws) (h1 : rm.cells = 0) (h2 : rm.slots = 0) (h3 : rm.frames + 1 ≤ R.frames) (h4 : 80 + rm.locals ≤ R.locals) :
    CallB R s args own idx (yn k) bytes mL cret (wk k) rm 0 0 n := callB_of n hts (pGoodIn hC) hC.1 h1 h2 (hts _ hC.2.2.2.1) (hts _ hl) hC.2.2.2.2 ⟨h3, by have := hC.2.2.1; omega⟩
theorem pblind {G : va_G} {ad : Nat → Nat} {cA : Nat → ClassId} {M : pM} {sz : Nat} {av : List Value} : FrameBlind (va_Pc av (pPre G ad cA M sz)) := fun a U g mk q => by
  obtain ⟨q0, q1, qP, qK, qD, qN, qR⟩ := q
  exact ⟨q0, q1, qP, va_K.moved (u := U) (U := U.calling g mk a) (Vm.Alike.refl U.vm) qK, qD, fun z hz => va_Nw.same rfl rfl (qN z hz), qR.1.moved (u := U) (U := U.calling g mk a) (Vm.Alike.refl U.vm), va_Z.moved (u := U) (U := U.calling g mk a) (Vm.Alike.refl U.vm) qR.2.1, qR.2.2.same (U := U.calling g mk a) rfl⟩
theorem pRO_at {G : va_G} {ad : Nat → Nat} {cA : Nat → ClassId} {M : pM} {s : State} {H : Heap} {locs : List Loc} {A : Nat → Prop} {H0 : Heap} (hA : ∀ q : Nat, H0.size ≤ q → A q) (hW : pWd G ad cA A H0 M H locs) (hH0 : H0 = s.heap) (hRO : pRO ad A s s.heap) {U : State} (hU : U.heap = H) (hWm : s.WarmedH U.vm) : pRO ad (va_A (pW ad cA M) H.size) U U.heap := by
  subst hH0
  have hk : ∀ a : Nat, a < s.heap.size → ¬ A a → H[a]? = s.heap[a]? := hW.2.2.2.1
  have hin : ∀ z, va_A (pW ad cA M) H.size z → A z := by
    rintro z (⟨k, e9, h⟩ | h)
    · exact hW.2.1.2 k _ h
    · exact hA z (Nat.le_trans hW.2.2.1 h)
  rw [hU]
  exact ⟨((hRO.1.moved hWm.alike).kept hk).narrow hin, (va_Z.moved hWm.alike hRO.2.1).kept hk |>.narrow hin, hRO.2.2.warm hWm⟩
theorem ppre {G : va_G} {ad : Nat → Nat} {cA : Nat → ClassId} {M : pM} {s : State} {H : Heap} {locs : List Loc} {A : Nat → Prop} {H0 : Heap} (hA : ∀ q : Nat, H0.size ≤ q → A q) (hW : pWd G ad cA A H0 M H locs) (hH0 : H0 = s.heap) (hRO : pRO ad A s s.heap) (hK : va_K G pcl (ptys cA) s) (hnw : pNw s) : ∀ U : State, U.heap = H → s.WarmedH U.vm → pPre G ad cA M H.size U := fun U hU hWm => ⟨by rw [hU], by rw [hU]; exact hW.1, va_K.moved hWm.alike hK, hW.2.1.weaken (fun _ _ _ _ => trivial), pNw_warm hWm hnw, pRO_at hA hW hH0 hRO hU hWm⟩
theorem p_sum_len {ad : Nat → Nat} : ∀ {r : List pV}, ((r.map (ptv ad)).map fun v => v.category).sum = r.length
  | [] => rfl
  | v :: r => by rw [List.map_cons, List.map_cons, List.sum_cons, p_sum_len, ptv_cat, List.length_cons]; omega
theorem sn_callS {kd k n nx idx mL : Nat} {bytes : ByteArray} {cret : Option FieldType} (hC : pCal yn wk k n mL bytes cret) (hlk : Cond.methodLink own idx (yn k) ∈ pws) (hst : Cond.static (yn k) ∈ pws) (hd : decode cc bpc = .ok (.invokestatic idx, 3)) (hn : pcs nx = bpc + 3) : pSnd yn wk own cc nL ret pcs bpc (s_callS kd k n nx) := by
  intro p l e R s m args below meth c G ad cA A H0 kc ks Q ⟨hx, hb, hml, hown, hts, hnw, hK, hkc, hks, hfr, hlo, hH0, hRO⟩ hA hR X Y hX hY ls st M r h H locs arr hW hl
  unfold s_callS at h
  cases hk9 : (Nat.ble n st.length && Nat.ble st.length 8) with
  | false => rw [hk9] at h; cases h
  | true =>
    rw [hk9, cond_true] at h
    have hn1 : n ≤ st.length := Nat.le_of_ble_eq_true (Bool.and_eq_true_iff.mp hk9).1
    have hn2 : st.length ≤ 8 := Nat.le_of_ble_eq_true (Bool.and_eq_true_iff.mp hk9).2
    obtain ⟨q, hq, h⟩ := pbk_some h
    obtain ⟨rm, r1, r2, r3, r4, hM⟩ := hY _ _ _ _ hq
    have es : st.map (ptv ad) = (((st.take n).reverse).map (ptv ad)).reverse ++ (st.drop n).map (ptv ad) := by
      rw [← List.map_reverse, List.reverse_reverse, ← List.map_append, List.take_append_drop]
    refine pcall_go hA hW (va_runS (As := ((st.take n).reverse).map (ptv ad)) (rest := (st.drop n).map (ptv ad)) ⟨hx, hb, hml, hown, hts⟩ (hM H.size) ⟨pCB hC hts hlk r1 r2 r3 r4, hts _ hst⟩ ⟨pblind, fun U hU hWm => ⟨rfl, ppre hA hW hH0 hRO hK hnw U hU hWm⟩⟩ rfl (by rw [List.length_map, List.length_reverse, List.length_take]; omega) (hl.2.1) es (lv_room (by rw [p_sum_len, List.length_drop]; omega)) hd ⟨by omega, by omega⟩) (fun H1 locs1 hW1 => ?_)
    have e9 := hX _ _ _ _ _ h _ _ _ hW1 hl
    rw [← hn]
    rw [List.map_append] at e9
    rcases q with ⟨_ | v, M9⟩ <;> exact e9
theorem sn_callSN {kd k n nx idx mL : Nat} {bytes : ByteArray} {cret : Option FieldType} {host : String} (hC : pCal yn wk k n mL bytes cret) (hlk : (own, idx, yn k, host) ∈ pnest) (hst : Cond.static (yn k) ∈ pws) (hd : decode cc bpc = .ok (.invokestatic idx, 3)) (hn : pcs nx = bpc + 3) : pSnd yn wk own cc nL ret pcs bpc (s_callS kd k n nx) := by
  intro p l e R s m args below meth c G ad cA A H0 kc ks Q ⟨hx, hb, hml, hown, hts, hnw, hK, hkc, hks, hfr, hlo, hH0, hRO⟩ hA hR X Y hX hY ls st M r h H locs arr hW hl
  unfold s_callS at h
  cases hk9 : (Nat.ble n st.length && Nat.ble st.length 8) with
  | false => rw [hk9] at h; cases h
  | true =>
    rw [hk9, cond_true] at h
    have hn1 : n ≤ st.length := Nat.le_of_ble_eq_true (Bool.and_eq_true_iff.mp hk9).1
    have hn2 : st.length ≤ 8 := Nat.le_of_ble_eq_true (Bool.and_eq_true_iff.mp hk9).2
    obtain ⟨q, hq, h⟩ := pbk_some h
    obtain ⟨rm, r1, r2, r3, r4, hM⟩ := hY _ _ _ _ hq
    have es : st.map (ptv ad) = (((st.take n).reverse).map (ptv ad)).reverse ++ (st.drop n).map (ptv ad) := by
      rw [← List.map_reverse, List.reverse_reverse, ← List.map_append, List.take_append_drop]
    refine pcall_go hA hW (va_runSN (As := ((st.take n).reverse).map (ptv ad)) (rest := (st.drop n).map (ptv ad)) ⟨hx, hb, hml, hown, hts⟩ (hM H.size) ⟨va_cnB n hts (pGoodIn hC) hC.1 r1 r2 (hnw _ hlk) (hts _ hC.2.2.2.1) hC.2.2.2.2 ⟨r3, by have := hC.2.2.1; omega⟩, hts _ hst, trivial⟩ ⟨pblind, fun U hU hWm => ⟨rfl, ppre hA hW hH0 hRO hK hnw U hU hWm⟩⟩ rfl (by rw [List.length_map, List.length_reverse, List.length_take]; omega) (hl.2.1) es (lv_room (by rw [p_sum_len, List.length_drop]; omega)) hd ⟨by omega, by omega⟩) (fun H1 locs1 hW1 => ?_)
    have e9 := hX _ _ _ _ _ h _ _ _ hW1 hl
    rw [← hn]
    rw [List.map_append] at e9
    rcases q with ⟨_ | v, M9⟩ <;> exact e9
theorem sn_callV {kd ci k n nx idx mL N : Nat} {bytes : ByteArray} {cret : Option FieldType} {C : String} {T : u_T} (hc : pcl[ci]? = some (C, T, N)) (hci : ci < 100) (hC : pCal yn wk k n mL bytes cret) (hlk : Cond.methodLink own idx (yn k) ∈ pws) (him : Cond.instanceMethod (yn k) ∈ pws) (hse : Cond.selects C (yn k) (yn k) ∈ pws) (hd : decode cc bpc = .ok (.invokevirtual idx, 3)) (hn : pcs nx = bpc + 3) : pSnd yn wk own cc nL ret pcs bpc (s_callV kd ci k n nx) := by
  intro p l e R s m args below meth c G ad cA A H0 kc ks Q ⟨hx, hb, hml, hown, hts, hnw, hK, hkc, hks, hfr, hlo, hH0, hRO⟩ hA hR X Y hX hY ls st M r h H locs arr hW hl
  unfold s_callV at h
  rcases hsd : st.drop n with _ | ⟨x | _ | _ | o, rest⟩
  any_goals (rw [hsd] at h; cases h)
  rw [hsd] at h
  dsimp only at h
  cases hk9 : (Nat.beq (pK o) ci && Nat.ble st.length 8) with
  | false => rw [hk9] at h; cases h
  | true =>
    rw [hk9, cond_true] at h
    have hko : pK o = ci := Nat.eq_of_beq_eq_true (Bool.and_eq_true_iff.mp hk9).1
    have hn2 : st.length ≤ 8 := Nat.le_of_ble_eq_true (Bool.and_eq_true_iff.mp hk9).2
    have hln : rest.length + 1 + n = st.length := by
      have h9 := congrArg List.length hsd
      rw [List.length_drop, List.length_cons] at h9
      omega
    obtain ⟨q, hq, h⟩ := pbk_some h
    obtain ⟨rm, r1, r2, r3, r4, hM⟩ := hY _ _ _ _ hq
    have es : st.map (ptv ad) = (((st.take n).reverse).map (ptv ad)).reverse ++ .ref (ad o) :: rest.map (ptv ad) := by
      rw [← List.map_reverse, List.reverse_reverse]
      show _ = (st.take n).map (ptv ad) ++ ((.inr (o + 2) :: rest : List pV)).map (ptv ad)
      rw [← hsd, ← List.map_append, List.take_append_drop]
    have hat : (pW ad cA M)[o]? = some (ad o, .inr (ci, (List.range (pL o)).map fun k => ptv ad (pfv o k M))) := by
      rw [pW_at ad cA M (pK_lt (by omega))]; unfold pEn
      rw [if_pos (by omega : pK o < 100), hko]
    refine pcall_go hA hW (va_runV (b := ad o) (C := C) (As := ((st.take n).reverse).map (ptv ad)) (rest := rest.map (ptv ad)) ⟨hx, hb, hml, hown, hts⟩ (hM H.size) ⟨pCB hC hts hlk r1 r2 r3 r4, hts _ him, hts _ hse⟩ ⟨pblind, va_recv hK hW.1 hc hat, fun U hU hWm => ⟨rfl, ppre hA hW hH0 hRO hK hnw U hU hWm⟩⟩ rfl (by rw [List.length_map, List.length_reverse, List.length_take]; omega) (hl.2.1) es (lv_room (by rw [p_sum_len]; omega)) hd ⟨by omega, by omega⟩) (fun H1 locs1 hW1 => ?_)
    have e9 := hX _ _ _ _ _ h _ _ _ hW1 hl
    rw [← hn]
    rw [List.map_append] at e9
    rcases q with ⟨_ | v, M9⟩ <;> exact e9
theorem sn_mmax {nx idx : Nat} (hlk : Cond.methodLink own idx Lib.Math.max.name ∈ pws) (hst : Cond.static Lib.Math.max.name ∈ pws) (hin : Cond.initialized "java/lang/Math" ∈ pws) (hcd : Cond.code Lib.Math.max.name Lib.Math.max.code 2 (some .int) ∈ pws) (hd : decode cc bpc = .ok (.invokestatic idx, 3)) (hn : pcs nx = bpc + 3) : pSnd yn wk own cc nL ret pcs bpc (s_mm jmax nx) := by
  intro p l e R s m args below meth c G ad cA A H0 kc ks Q ⟨hx, hb, hml, hown, hts, hnw, hK, hkc, hks, hfr, hlo, hH0, hRO⟩ hA hR X Y hX hY ls st M r h H locs arr hW hl
  unfold s_mm at h
  rcases st with _ | ⟨y | y, _ | ⟨x | x, rest⟩⟩
  any_goals cases h
  dsimp only at h
  cases hk9 : Nat.ble rest.length 8 with
  | false => rw [hk9] at h; cases h
  | true =>
    rw [hk9, cond_true] at h
    have hn2 : rest.length ≤ 8 := Nat.le_of_ble_eq_true hk9
    refine va_mmax hx hb (hml.trans hl.2.1.symm) hown (hts _ hlk) (hts _ hst) (hts _ hin) (hts _ hcd) hfr (by rw [p_sum_len]; omega) hkc hks hd ?_
    have e9 := hX _ _ _ _ _ h _ _ _ hW hl
    rw [← hn]
    rw [List.map_cons, show ptv ad (.inl (jmax x y)) = Value.int (if iI x < iI y then iI y else iI x) from by
      unfold jmax
      split <;> exact congrArg Value.int (Int32.ofInt_toInt _)] at e9
    exact e9
theorem sn_mmin {nx idx : Nat} (hlk : Cond.methodLink own idx Lib.Math.min.name ∈ pws) (hst : Cond.static Lib.Math.min.name ∈ pws) (hin : Cond.initialized "java/lang/Math" ∈ pws) (hcd : Cond.code Lib.Math.min.name Lib.Math.min.code 2 (some .int) ∈ pws) (hd : decode cc bpc = .ok (.invokestatic idx, 3)) (hn : pcs nx = bpc + 3) : pSnd yn wk own cc nL ret pcs bpc (s_mm jmin nx) := by
  intro p l e R s m args below meth c G ad cA A H0 kc ks Q ⟨hx, hb, hml, hown, hts, hnw, hK, hkc, hks, hfr, hlo, hH0, hRO⟩ hA hR X Y hX hY ls st M r h H locs arr hW hl
  unfold s_mm at h
  rcases st with _ | ⟨y | y, _ | ⟨x | x, rest⟩⟩
  any_goals cases h
  dsimp only at h
  cases hk9 : Nat.ble rest.length 8 with
  | false => rw [hk9] at h; cases h
  | true =>
    rw [hk9, cond_true] at h
    have hn2 : rest.length ≤ 8 := Nat.le_of_ble_eq_true hk9
    refine va_mmin hx hb (hml.trans hl.2.1.symm) hown (hts _ hlk) (hts _ hst) (hts _ hin) (hts _ hcd) hfr (by rw [p_sum_len]; omega) hkc hks hd ?_
    have e9 := hX _ _ _ _ _ h _ _ _ hW hl
    rw [← hn]
    rw [List.map_cons, show ptv ad (.inl (jmin x y)) = Value.int (if iI y < iI x then iI y else iI x) from by
      unfold jmin
      split <;> exact congrArg Value.int (Int32.ofInt_toInt _)] at e9
    exact e9
theorem sn_ldcs {nx : Nat} (ho : own = RX7) (hd : decode cc bpc = .ok (.ldc 130, 2)) (hn : pcs nx = bpc + 2) : pSnd yn wk own cc nL ret pcs bpc (s_push (.inr 93) nx) := by
  intro p l e R s m args below meth c G ad cA A H0 kc ks Q ⟨hx, hb, hml, hown, hts, hnw, hK, hkc, hks, hfr, hlo, hH0, hRO⟩ hA hR X Y hX hY ls st M r h H locs arr hW hl
  subst ho
  refine va_ldcS hx hb hown hRO.2.2 hd ?_
  rw [← hn]
  exact hX _ _ _ _ _ h _ _ _ hW hl
theorem sn_sget {nx idx : Nat} (hlk : Cond.fieldLink own idx "java/lang/String" "COMPACT_STRINGS" "Z" ∈ pws) (hd : decode cc bpc = .ok (.getstatic idx, 3)) (hn : pcs nx = bpc + 3) : pSnd yn wk own cc nL ret pcs bpc (s_push (.inl 1) nx) := by
  intro p l e R s m args below meth c G ad cA A H0 kc ks Q ⟨hx, hb, hml, hown, hts, hnw, hK, hkc, hks, hfr, hlo, hH0, hRO⟩ hA hR X Y hX hY ls st M r h H locs arr hW hl
  subst hH0
  refine va_gets hx hb hRO.2.1 hW.2.2 hown (hts _ hlk) (fun _ h9 => h9) hd ?_
  rw [← hn]
  exact hX _ _ _ _ _ h _ _ _ hW hl
theorem sn_scod {nx idx : Nat} (hlk : Cond.fieldLink own idx "java/lang/String" "coder" "B" ∈ pws) (hd : decode cc bpc = .ok (.getfield idx, 3)) (hn : pcs nx = bpc + 3) : pSnd yn wk own cc nL ret pcs bpc (s_sfld (.inl 0) nx) := by
  intro p l e R s m args below meth c G ad cA A H0 kc ks Q ⟨hx, hb, hml, hown, hts, hnw, hK, hkc, hks, hfr, hlo, hH0, hRO⟩ hA hR X Y hX hY ls st M r h H locs arr hW hl
  subst hH0
  unfold s_sfld at h
  split at h
  · refine vk_getf hx hb (hRO.1.1 0 (by decide)).2.1 hW.2.2 hown (hts _ hlk) (fun _ h9 => h9) hd ?_
    rw [← hn]
    exact hX _ _ _ _ _ h _ _ _ hW hl
  · cases h
theorem sn_sval {nx idx : Nat} (hlk : Cond.fieldLink own idx "java/lang/String" "value" "[B" ∈ pws) (hd : decode cc bpc = .ok (.getfield idx, 3)) (hn : pcs nx = bpc + 3) : pSnd yn wk own cc nL ret pcs bpc (s_sfld (.inr 94) nx) := by
  intro p l e R s m args below meth c G ad cA A H0 kc ks Q ⟨hx, hb, hml, hown, hts, hnw, hK, hkc, hks, hfr, hlo, hH0, hRO⟩ hA hR X Y hX hY ls st M r h H locs arr hW hl
  subst hH0
  unfold s_sfld at h
  split at h
  · refine vk_getf hx hb (hRO.1.1 0 (by decide)).2.2.1 hW.2.2 hown (hts _ hlk) (fun _ h9 => h9) hd ?_
    rw [← hn]
    exact hX _ _ _ _ _ h _ _ _ hW hl
  · cases h
theorem sn_slen {nx : Nat} (hd : decode cc bpc = .ok (.arraylength, 1)) (hn : pcs nx = bpc + 1) : pSnd yn wk own cc nL ret pcs bpc (s_slen nx) := by
  intro p l e R s m args below meth c G ad cA A H0 kc ks Q ⟨hx, hb, hml, hown, hts, hnw, hK, hkc, hks, hfr, hlo, hH0, hRO⟩ hA hR X Y hX hY ls st M r h H locs arr hW hl
  subst hH0
  unfold s_slen at h
  split at h
  · refine va_tlen hx hb (hRO.1.1 0 (by decide)).2.2.2 hW.2.2 (v := 9) rfl hd ?_
    rw [← hn]
    exact hX _ _ _ _ _ h _ _ _ hW hl
  · cases h
theorem sn_sbld {nx : Nat} (hd : decode cc bpc = .ok (.baload, 1)) (hn : pcs nx = bpc + 1) : pSnd yn wk own cc nL ret pcs bpc (s_sbld nx) := by
  intro p l e R s m args below meth c G ad cA A H0 kc ks Q ⟨hx, hb, hml, hown, hts, hnw, hK, hkc, hks, hfr, hlo, hH0, hRO⟩ hA hR X Y hX hY ls st M r h H locs arr hW hl
  subst hH0
  unfold s_sbld at h
  split at h
  · rename_i i9 r9
    split at h
    · rename_i hi
      obtain ⟨hin, hcl⟩ := iI_in (n := 9) hi.1 hi.2 (by decide)
      refine va_tb hx hb (hRO.1.1 0 (by decide)).2.2.2 hW.2.2 hin (v := .int (sbyt.getD i9.toNat 0)) (by rw [hcl]; rfl) hd ?_
      rw [← hn]
      have e9 := hX _ _ _ _ _ h _ _ _ hW hl
      rw [List.map_cons, show ptv ad (.inl (sbyt.getD i9.toNat 0).toInt) = Value.int (sbyt.getD i9.toNat 0) from congrArg Value.int (Int32.ofInt_toInt _)] at e9
      exact e9
    · cases h
  · cases h
theorem sn_callW {kd k n nx idx mL : Nat} {bytes : ByteArray} {cret : Option FieldType} (hC : pCal yn wk k n mL bytes cret) (hlk : Cond.methodLink own idx (yn k) ∈ pws) (him : Cond.instanceMethod (yn k) ∈ pws) (hse : Cond.selects "java/lang/String" (yn k) (yn k) ∈ pws) (hd : decode cc bpc = .ok (.invokevirtual idx, 3)) (hn : pcs nx = bpc + 3) : pSnd yn wk own cc nL ret pcs bpc (s_callW kd k n nx) := by
  intro p l e R s m args below meth c G ad cA A H0 kc ks Q ⟨hx, hb, hml, hown, hts, hnw, hK, hkc, hks, hfr, hlo, hH0, hRO⟩ hA hR X Y hX hY ls st M r h H locs arr hW hl
  unfold s_callW at h
  split at h
  · rename_i rest hsd
    cases hk9 : (Nat.ble st.length 8) with
    | false => rw [hk9] at h; cases h
    | true =>
      rw [hk9, cond_true] at h
      have hn2 : st.length ≤ 8 := Nat.le_of_ble_eq_true hk9
      have hln : rest.length + 1 + n = st.length := by
        have h9 := congrArg List.length hsd
        rw [List.length_drop, List.length_cons] at h9
        omega
      obtain ⟨q, hq, h⟩ := pbk_some h
      obtain ⟨rm, r1, r2, r3, r4, hM⟩ := hY _ _ _ _ hq
      have es : st.map (ptv ad) = (((st.take n).reverse).map (ptv ad)).reverse ++ .ref (ad 91) :: rest.map (ptv ad) := by
        rw [← List.map_reverse, List.reverse_reverse]
        show _ = (st.take n).map (ptv ad) ++ ((.inr 93 :: rest : List pV)).map (ptv ad)
        rw [← hsd, ← List.map_append, List.take_append_drop]
      refine pcall_go hA hW (va_runV (b := ad 91) (C := "java/lang/String") (As := ((st.take n).reverse).map (ptv ad)) (rest := rest.map (ptv ad)) ⟨hx, hb, hml, hown, hts⟩ (hM H.size) ⟨pCB hC hts hlk r1 r2 r3 r4, hts _ him, hts _ hse⟩ ⟨pblind, vk_recv (i := 0) hRO.1 (by decide) (by rw [← hH0]; exact hW.2.2), fun U hU hWm => ⟨rfl, ppre hA hW hH0 hRO hK hnw U hU hWm⟩⟩ rfl (by rw [List.length_map, List.length_reverse, List.length_take]; omega) (hl.2.1) es (lv_room (by rw [p_sum_len]; omega)) hd ⟨by omega, by omega⟩) (fun H1 locs1 hW1 => ?_)
      have e9 := hX _ _ _ _ _ h _ _ _ hW1 hl
      rw [← hn]
      rw [List.map_append] at e9
      rcases q with ⟨_ | v, M9⟩ <;> exact e9
  · cases h
end SND
end
