/-! the plain steps as data, and the check of a method's bytes against them -/
def zInt : Option FieldType → Bool
  | some .int => true
  | _ => false
theorem zInt_of {r : Option FieldType} (h : zInt r = true) : r = some .int := by
  unfold zInt at h
  split at h
  · rfl
  · cases h
def zVoid : Option FieldType → Bool
  | none => true
  | _ => false
theorem zVoid_of {r : Option FieldType} (h : zVoid r = true) : r = none := by
  unfold zVoid at h
  split at h
  · rfl
  · cases h
def zq3 (a b : Nat × Nat × Nat) : Bool := Nat.beq a.2.2 b.2.2 && (Nat.beq a.1 b.1 && Nat.beq a.2.1 b.2.1)
def zq5 (a b : Nat × Nat × Nat × Nat × Nat) : Bool := Nat.beq a.2.2.2.2 b.2.2.2.2 && (Nat.beq a.1 b.1 && (Nat.beq a.2.1 b.2.1 && (Nat.beq a.2.2.1 b.2.2.1 && Nat.beq a.2.2.2.1 b.2.2.2.1)))
theorem zand {a b : Bool} (h : (a && b) = true) : a = true ∧ b = true := by rw [Bool.and_eq_true] at h; exact h
theorem zq3_of {a b : Nat × Nat × Nat} (h : zq3 a b = true) : a = b := by
  obtain ⟨a1, a2, a3⟩ := a
  obtain ⟨b1, b2, b3⟩ := b
  obtain ⟨h1, h⟩ := zand h
  obtain ⟨h2, h3⟩ := zand h
  have e1 : a3 = b3 := Nat.eq_of_beq_eq_true h1
  have e2 : a1 = b1 := Nat.eq_of_beq_eq_true h2
  have e3 : a2 = b2 := Nat.eq_of_beq_eq_true h3
  rw [e1, e2, e3]
theorem zq5_of {a b : Nat × Nat × Nat × Nat × Nat} (h : zq5 a b = true) : a = b := by
  obtain ⟨a1, a2, a3, a4, a5⟩ := a
  obtain ⟨b1, b2, b3, b4, b5⟩ := b
  obtain ⟨h1, h⟩ := zand h
  obtain ⟨h2, h⟩ := zand h
  obtain ⟨h3, h⟩ := zand h
  obtain ⟨h4, h5⟩ := zand h
  have e1 : a5 = b5 := Nat.eq_of_beq_eq_true h1
  have e2 : a1 = b1 := Nat.eq_of_beq_eq_true h2
  have e3 : a2 = b2 := Nat.eq_of_beq_eq_true h3
  have e4 : a3 = b3 := Nat.eq_of_beq_eq_true h4
  have e5 : a4 = b4 := Nat.eq_of_beq_eq_true h5
  rw [e1, e2, e3, e4, e5]
def zin3 (a : Nat × Nat × Nat) (l : List (Nat × Nat × Nat)) : Bool := l.any (zq3 a)
def zin5 (a : Nat × Nat × Nat × Nat × Nat) (l : List (Nat × Nat × Nat × Nat × Nat)) : Bool := l.any (zq5 a)
theorem zin3_of {a : Nat × Nat × Nat} {l : List (Nat × Nat × Nat)} (h : zin3 a l = true) : a ∈ l := by
  obtain ⟨q, h1, h2⟩ := List.any_eq_true.mp h
  rw [zq3_of h2]; exact h1
theorem zin5_of {a : Nat × Nat × Nat × Nat × Nat} {l : List (Nat × Nat × Nat × Nat × Nat)} (h : zin5 a l = true) : a ∈ l := by
  obtain ⟨q, h1, h2⟩ := List.any_eq_true.mp h
  rw [zq5_of h2]; exact h1
def zGetf (own : String) (q : Nat × Nat × Nat) : Prop := ∀ {cc : ByteArray} {nL : Nat} {ret : Option FieldType} {pcs : Nat → Nat} {bpc nx : Nat}, decode cc bpc = .ok (.getfield q.2.2, 3) → pcs nx = bpc + 3 → pSnd pyn pwk own cc nL ret pcs bpc (s_getf q.1 q.2.1 nx)
def zPuti (own : String) (q : Nat × Nat × Nat) : Prop := ∀ {cc : ByteArray} {nL : Nat} {ret : Option FieldType} {pcs : Nat → Nat} {bpc nx : Nat}, decode cc bpc = .ok (.putfield q.2.2, 3) → pcs nx = bpc + 3 → pSnd pyn pwk own cc nL ret pcs bpc (s_puti q.1 q.2.1 nx)
def zCallV (own : String) (q : Nat × Nat × Nat × Nat × Nat) : Prop := ∀ {cc : ByteArray} {nL : Nat} {ret : Option FieldType} {pcs : Nat → Nat} {bpc nx : Nat}, decode cc bpc = .ok (.invokevirtual q.2.2.2.2, 3) → pcs nx = bpc + 3 → pSnd pyn pwk own cc nL ret pcs bpc (s_callV q.1 q.2.1 q.2.2.1 q.2.2.2.1 nx)
def e0 (b : List UInt8) (k : Nat) : Bool := match b with
  | x :: _ => Nat.beq x.toNat k
  | _ => false
def e1 (b : List UInt8) (k : Nat) (f : Nat → Bool) : Bool := match b with
  | x :: a :: _ => Nat.beq x.toNat k && f a.toNat
  | _ => false
def e2 (b : List UInt8) (k : Nat) (f : Nat → Nat → Bool) : Bool := match b with
  | x :: a :: c :: _ => Nat.beq x.toNat k && f a.toNat c.toNat
  | _ => false
theorem znx {PC : List Nat} {nx i p k : Nat} (h : (Nat.beq nx (i + 1) && Nat.beq (PC.getD (i + 1) 0) (p + k)) = true) : PC.getD nx 0 = p + k := by
  obtain ⟨h1, h2⟩ := zand h
  rw [Nat.eq_of_beq_eq_true h1]
  exact Nat.eq_of_beq_eq_true h2
theorem z_head : ∀ (l : List Nat) (n : Nat), (l.drop n).headD 0 = l.getD n 0
  | [], n => by cases n <;> rfl
  | _ :: _, 0 => rfl
  | _ :: l, n + 1 => z_head l n
theorem z_tail : ∀ (l : List Nat) (n : Nat), (l.drop n).tail = l.drop (n + 1)
  | [], n => by cases n <;> rfl
  | _ :: _, 0 => rfl
  | _ :: l, n + 1 => z_tail l n
abbrev zCk : Type := List (Nat × Nat × Nat) → List (Nat × Nat × Nat) → List (Nat × Nat × Nat × Nat × Nat) → Nat → Option FieldType → List Nat → Nat → Nat → Nat → List UInt8 → Bool
def zSnd (f : pS) (ck : zCk) : Prop := ∀ (own : String) (gl ul : List (Nat × Nat × Nat)) (cl : List (Nat × Nat × Nat × Nat × Nat)) (cc : ByteArray) (nL : Nat) (ret : Option FieldType) (PC : List Nat) (i p : Nat), (∀ q ∈ gl, zGetf own q) → (∀ q ∈ ul, zPuti own q) → (∀ q ∈ cl, zCallV own q) → ck gl ul cl nL ret PC i p (PC.getD (i + 1) 0) (cc.data.toList.drop p) = true → pSnd pyn pwk own cc nL ret (fun j => PC.getD j 0) p f
/-- a plain step: what it does, the check of its bytes, why that is enough -/
abbrev zI := {x : pS × zCk // zSnd x.1 x.2}
abbrev zE := zI ⊕ pS
def zasm : List zE → List pS
  | [] => []
  | .inl x :: l => x.1.1 :: zasm l
  | .inr f :: l => f :: zasm l
def zoadd (nx : Nat) : zI := ⟨(s_bin (fun x y => x + y) nx, fun _ _ _ _ _ _ i p q b => e0 b 96 && (Nat.beq nx (i + 1) && Nat.beq q (p + 1))), by
  intro own gl ul cl cc nL ret PC i p Hgetf Hputi HcallV h
  have h : (bq0 cc p 96 && (Nat.beq nx (i + 1) && Nat.beq (PC.getD (i + 1) 0) (p + 1))) = true := h
  obtain ⟨h1, h⟩ := zand h
  have h2 := h
  exact sn_iadd (dX_iadd h1) (znx h2)⟩
def zosub (nx : Nat) : zI := ⟨(s_bin (fun x y => x - y) nx, fun _ _ _ _ _ _ i p q b => e0 b 100 && (Nat.beq nx (i + 1) && Nat.beq q (p + 1))), by
  intro own gl ul cl cc nL ret PC i p Hgetf Hputi HcallV h
  have h : (bq0 cc p 100 && (Nat.beq nx (i + 1) && Nat.beq (PC.getD (i + 1) 0) (p + 1))) = true := h
  obtain ⟨h1, h⟩ := zand h
  have h2 := h
  exact sn_isub (dX_isub h1) (znx h2)⟩
def zomul (nx : Nat) : zI := ⟨(s_bin (fun x y => x * y) nx, fun _ _ _ _ _ _ i p q b => e0 b 104 && (Nat.beq nx (i + 1) && Nat.beq q (p + 1))), by
  intro own gl ul cl cc nL ret PC i p Hgetf Hputi HcallV h
  have h : (bq0 cc p 104 && (Nat.beq nx (i + 1) && Nat.beq (PC.getD (i + 1) 0) (p + 1))) = true := h
  obtain ⟨h1, h⟩ := zand h
  have h2 := h
  exact sn_imul (dX_imul h1) (znx h2)⟩
def zoand (nx : Nat) : zI := ⟨(s_bin jand nx, fun _ _ _ _ _ _ i p q b => e0 b 126 && (Nat.beq nx (i + 1) && Nat.beq q (p + 1))), by
  intro own gl ul cl cc nL ret PC i p Hgetf Hputi HcallV h
  have h : (bq0 cc p 126 && (Nat.beq nx (i + 1) && Nat.beq (PC.getD (i + 1) 0) (p + 1))) = true := h
  obtain ⟨h1, h⟩ := zand h
  have h2 := h
  exact sn_iand (dX_iand h1) (znx h2)⟩
def zoor (nx : Nat) : zI := ⟨(s_bin jor nx, fun _ _ _ _ _ _ i p q b => e0 b 128 && (Nat.beq nx (i + 1) && Nat.beq q (p + 1))), by
  intro own gl ul cl cc nL ret PC i p Hgetf Hputi HcallV h
  have h : (bq0 cc p 128 && (Nat.beq nx (i + 1) && Nat.beq (PC.getD (i + 1) 0) (p + 1))) = true := h
  obtain ⟨h1, h⟩ := zand h
  have h2 := h
  exact sn_ior (dX_ior h1) (znx h2)⟩
def zoxor (nx : Nat) : zI := ⟨(s_bin jxor nx, fun _ _ _ _ _ _ i p q b => e0 b 130 && (Nat.beq nx (i + 1) && Nat.beq q (p + 1))), by
  intro own gl ul cl cc nL ret PC i p Hgetf Hputi HcallV h
  have h : (bq0 cc p 130 && (Nat.beq nx (i + 1) && Nat.beq (PC.getD (i + 1) 0) (p + 1))) = true := h
  obtain ⟨h1, h⟩ := zand h
  have h2 := h
  exact sn_ixor (dX_ixor h1) (znx h2)⟩
def zoshl (nx : Nat) : zI := ⟨(s_bin jshl nx, fun _ _ _ _ _ _ i p q b => e0 b 120 && (Nat.beq nx (i + 1) && Nat.beq q (p + 1))), by
  intro own gl ul cl cc nL ret PC i p Hgetf Hputi HcallV h
  have h : (bq0 cc p 120 && (Nat.beq nx (i + 1) && Nat.beq (PC.getD (i + 1) 0) (p + 1))) = true := h
  obtain ⟨h1, h⟩ := zand h
  have h2 := h
  exact sn_ishl (dX_ishl h1) (znx h2)⟩
def zoshr (nx : Nat) : zI := ⟨(s_bin jshr nx, fun _ _ _ _ _ _ i p q b => e0 b 122 && (Nat.beq nx (i + 1) && Nat.beq q (p + 1))), by
  intro own gl ul cl cc nL ret PC i p Hgetf Hputi HcallV h
  have h : (bq0 cc p 122 && (Nat.beq nx (i + 1) && Nat.beq (PC.getD (i + 1) 0) (p + 1))) = true := h
  obtain ⟨h1, h⟩ := zand h
  have h2 := h
  exact sn_ishr (dX_ishr h1) (znx h2)⟩
def zoushr (nx : Nat) : zI := ⟨(s_bin jushr nx, fun _ _ _ _ _ _ i p q b => e0 b 124 && (Nat.beq nx (i + 1) && Nat.beq q (p + 1))), by
  intro own gl ul cl cc nL ret PC i p Hgetf Hputi HcallV h
  have h : (bq0 cc p 124 && (Nat.beq nx (i + 1) && Nat.beq (PC.getD (i + 1) 0) (p + 1))) = true := h
  obtain ⟨h1, h⟩ := zand h
  have h2 := h
  exact sn_iushr (dX_iushr h1) (znx h2)⟩
def zoiald (nx : Nat) : zI := ⟨(s_get 100 nx, fun _ _ _ _ _ _ i p q b => e0 b 46 && (Nat.beq nx (i + 1) && Nat.beq q (p + 1))), by
  intro own gl ul cl cc nL ret PC i p Hgetf Hputi HcallV h
  have h : (bq0 cc p 46 && (Nat.beq nx (i + 1) && Nat.beq (PC.getD (i + 1) 0) (p + 1))) = true := h
  obtain ⟨h1, h⟩ := zand h
  have h2 := h
  exact sn_iald (dX_iaload h1) (znx h2)⟩
def zoiast (nx : Nat) : zI := ⟨(s_set 100 (fun v => v) nx, fun _ _ _ _ _ _ i p q b => e0 b 79 && (Nat.beq nx (i + 1) && Nat.beq q (p + 1))), by
  intro own gl ul cl cc nL ret PC i p Hgetf Hputi HcallV h
  have h : (bq0 cc p 79 && (Nat.beq nx (i + 1) && Nat.beq (PC.getD (i + 1) 0) (p + 1))) = true := h
  obtain ⟨h1, h⟩ := zand h
  have h2 := h
  exact sn_iast (dX_iastore h1) (znx h2)⟩
def zodup (nx : Nat) : zI := ⟨(s_dup nx, fun _ _ _ _ _ _ i p q b => e0 b 89 && (Nat.beq nx (i + 1) && Nat.beq q (p + 1))), by
  intro own gl ul cl cc nL ret PC i p Hgetf Hputi HcallV h
  have h : (bq0 cc p 89 && (Nat.beq nx (i + 1) && Nat.beq (PC.getD (i + 1) 0) (p + 1))) = true := h
  obtain ⟨h1, h⟩ := zand h
  have h2 := h
  exact sn_dup (dX_dup h1) (znx h2)⟩
def zopop (nx : Nat) : zI := ⟨(s_pop nx, fun _ _ _ _ _ _ i p q b => e0 b 87 && (Nat.beq nx (i + 1) && Nat.beq q (p + 1))), by
  intro own gl ul cl cc nL ret PC i p Hgetf Hputi HcallV h
  have h : (bq0 cc p 87 && (Nat.beq nx (i + 1) && Nat.beq (PC.getD (i + 1) 0) (p + 1))) = true := h
  obtain ⟨h1, h⟩ := zand h
  have h2 := h
  exact sn_pop (dX_pop h1) (znx h2)⟩
def zald0 (nx : Nat) : zI := ⟨(s_ald 0 nx, fun _ _ _ _ _ _ i p q b => e0 b 42 && (Nat.beq nx (i + 1) && Nat.beq q (p + 1))), by
  intro own gl ul cl cc nL ret PC i p Hgetf Hputi HcallV h
  have h : (bq0 cc p 42 && (Nat.beq nx (i + 1) && Nat.beq (PC.getD (i + 1) 0) (p + 1))) = true := h
  obtain ⟨h1, h⟩ := zand h
  have h2 := h
  exact sn_aload_n (k := 0) (dX_aload_0 h1) rfl (znx h2)⟩
def zild0 (nx : Nat) : zI := ⟨(s_ild 0 nx, fun _ _ _ _ _ _ i p q b => e0 b 26 && (Nat.beq nx (i + 1) && Nat.beq q (p + 1))), by
  intro own gl ul cl cc nL ret PC i p Hgetf Hputi HcallV h
  have h : (bq0 cc p 26 && (Nat.beq nx (i + 1) && Nat.beq (PC.getD (i + 1) 0) (p + 1))) = true := h
  obtain ⟨h1, h⟩ := zand h
  have h2 := h
  exact sn_iload_n (k := 0) (dX_iload_0 h1) rfl (znx h2)⟩
def zist0 (nx : Nat) : zI := ⟨(s_ist 0 nx, fun _ _ _ nL _ _ i p q b => e0 b 59 && (Nat.ble (0 + 1) nL && (Nat.beq nx (i + 1) && Nat.beq q (p + 1)))), by
  intro own gl ul cl cc nL ret PC i p Hgetf Hputi HcallV h
  have h : (bq0 cc p 59 && (Nat.ble (0 + 1) nL && (Nat.beq nx (i + 1) && Nat.beq (PC.getD (i + 1) 0) (p + 1)))) = true := h
  obtain ⟨h1, h⟩ := zand h
  obtain ⟨h2, h⟩ := zand h
  have h3 := h
  exact sn_istore_n (k := 0) (dX_istore_0 h1) rfl (Nat.le_of_ble_eq_true h2) (znx h3)⟩
def zald1 (nx : Nat) : zI := ⟨(s_ald 1 nx, fun _ _ _ _ _ _ i p q b => e0 b 43 && (Nat.beq nx (i + 1) && Nat.beq q (p + 1))), by
  intro own gl ul cl cc nL ret PC i p Hgetf Hputi HcallV h
  have h : (bq0 cc p 43 && (Nat.beq nx (i + 1) && Nat.beq (PC.getD (i + 1) 0) (p + 1))) = true := h
  obtain ⟨h1, h⟩ := zand h
  have h2 := h
  exact sn_aload_n (k := 1) (dX_aload_1 h1) rfl (znx h2)⟩
def zild1 (nx : Nat) : zI := ⟨(s_ild 1 nx, fun _ _ _ _ _ _ i p q b => e0 b 27 && (Nat.beq nx (i + 1) && Nat.beq q (p + 1))), by
  intro own gl ul cl cc nL ret PC i p Hgetf Hputi HcallV h
  have h : (bq0 cc p 27 && (Nat.beq nx (i + 1) && Nat.beq (PC.getD (i + 1) 0) (p + 1))) = true := h
  obtain ⟨h1, h⟩ := zand h
  have h2 := h
  exact sn_iload_n (k := 1) (dX_iload_1 h1) rfl (znx h2)⟩
def zist1 (nx : Nat) : zI := ⟨(s_ist 1 nx, fun _ _ _ nL _ _ i p q b => e0 b 60 && (Nat.ble (1 + 1) nL && (Nat.beq nx (i + 1) && Nat.beq q (p + 1)))), by
  intro own gl ul cl cc nL ret PC i p Hgetf Hputi HcallV h
  have h : (bq0 cc p 60 && (Nat.ble (1 + 1) nL && (Nat.beq nx (i + 1) && Nat.beq (PC.getD (i + 1) 0) (p + 1)))) = true := h
  obtain ⟨h1, h⟩ := zand h
  obtain ⟨h2, h⟩ := zand h
  have h3 := h
  exact sn_istore_n (k := 1) (dX_istore_1 h1) rfl (Nat.le_of_ble_eq_true h2) (znx h3)⟩
def zald2 (nx : Nat) : zI := ⟨(s_ald 2 nx, fun _ _ _ _ _ _ i p q b => e0 b 44 && (Nat.beq nx (i + 1) && Nat.beq q (p + 1))), by
  intro own gl ul cl cc nL ret PC i p Hgetf Hputi HcallV h
  have h : (bq0 cc p 44 && (Nat.beq nx (i + 1) && Nat.beq (PC.getD (i + 1) 0) (p + 1))) = true := h
  obtain ⟨h1, h⟩ := zand h
  have h2 := h
  exact sn_aload_n (k := 2) (dX_aload_2 h1) rfl (znx h2)⟩
def zild2 (nx : Nat) : zI := ⟨(s_ild 2 nx, fun _ _ _ _ _ _ i p q b => e0 b 28 && (Nat.beq nx (i + 1) && Nat.beq q (p + 1))), by
  intro own gl ul cl cc nL ret PC i p Hgetf Hputi HcallV h
  have h : (bq0 cc p 28 && (Nat.beq nx (i + 1) && Nat.beq (PC.getD (i + 1) 0) (p + 1))) = true := h
  obtain ⟨h1, h⟩ := zand h
  have h2 := h
  exact sn_iload_n (k := 2) (dX_iload_2 h1) rfl (znx h2)⟩
def zist2 (nx : Nat) : zI := ⟨(s_ist 2 nx, fun _ _ _ nL _ _ i p q b => e0 b 61 && (Nat.ble (2 + 1) nL && (Nat.beq nx (i + 1) && Nat.beq q (p + 1)))), by
  intro own gl ul cl cc nL ret PC i p Hgetf Hputi HcallV h
  have h : (bq0 cc p 61 && (Nat.ble (2 + 1) nL && (Nat.beq nx (i + 1) && Nat.beq (PC.getD (i + 1) 0) (p + 1)))) = true := h
  obtain ⟨h1, h⟩ := zand h
  obtain ⟨h2, h⟩ := zand h
  have h3 := h
  exact sn_istore_n (k := 2) (dX_istore_2 h1) rfl (Nat.le_of_ble_eq_true h2) (znx h3)⟩
def zald3 (nx : Nat) : zI := ⟨(s_ald 3 nx, fun _ _ _ _ _ _ i p q b => e0 b 45 && (Nat.beq nx (i + 1) && Nat.beq q (p + 1))), by
  intro own gl ul cl cc nL ret PC i p Hgetf Hputi HcallV h
  have h : (bq0 cc p 45 && (Nat.beq nx (i + 1) && Nat.beq (PC.getD (i + 1) 0) (p + 1))) = true := h
  obtain ⟨h1, h⟩ := zand h
  have h2 := h
  exact sn_aload_n (k := 3) (dX_aload_3 h1) rfl (znx h2)⟩
def zild3 (nx : Nat) : zI := ⟨(s_ild 3 nx, fun _ _ _ _ _ _ i p q b => e0 b 29 && (Nat.beq nx (i + 1) && Nat.beq q (p + 1))), by
  intro own gl ul cl cc nL ret PC i p Hgetf Hputi HcallV h
  have h : (bq0 cc p 29 && (Nat.beq nx (i + 1) && Nat.beq (PC.getD (i + 1) 0) (p + 1))) = true := h
  obtain ⟨h1, h⟩ := zand h
  have h2 := h
  exact sn_iload_n (k := 3) (dX_iload_3 h1) rfl (znx h2)⟩
def zist3 (nx : Nat) : zI := ⟨(s_ist 3 nx, fun _ _ _ nL _ _ i p q b => e0 b 62 && (Nat.ble (3 + 1) nL && (Nat.beq nx (i + 1) && Nat.beq q (p + 1)))), by
  intro own gl ul cl cc nL ret PC i p Hgetf Hputi HcallV h
  have h : (bq0 cc p 62 && (Nat.ble (3 + 1) nL && (Nat.beq nx (i + 1) && Nat.beq (PC.getD (i + 1) 0) (p + 1)))) = true := h
  obtain ⟨h1, h⟩ := zand h
  obtain ⟨h2, h⟩ := zand h
  have h3 := h
  exact sn_istore_n (k := 3) (dX_istore_3 h1) rfl (Nat.le_of_ble_eq_true h2) (znx h3)⟩
def zild (k : Nat) (nx : Nat) : zI := ⟨(s_ild k nx, fun _ _ _ _ _ _ i p q b => e1 b 21 (fun a => Nat.beq a k) && (Nat.beq nx (i + 1) && Nat.beq q (p + 2))), by
  intro own gl ul cl cc nL ret PC i p Hgetf Hputi HcallV h
  have h : (bq1 cc p 21 (fun a => Nat.beq a k) && (Nat.beq nx (i + 1) && Nat.beq (PC.getD (i + 1) 0) (p + 2))) = true := h
  obtain ⟨h1, h⟩ := zand h
  have h2 := h
  exact sn_iload (dX_iload h1) (znx h2)⟩
def zist (k : Nat) (nx : Nat) : zI := ⟨(s_ist k nx, fun _ _ _ nL _ _ i p q b => e1 b 54 (fun a => Nat.beq a k) && (Nat.ble (k + 1) nL && (Nat.beq nx (i + 1) && Nat.beq q (p + 2)))), by
  intro own gl ul cl cc nL ret PC i p Hgetf Hputi HcallV h
  have h : (bq1 cc p 54 (fun a => Nat.beq a k) && (Nat.ble (k + 1) nL && (Nat.beq nx (i + 1) && Nat.beq (PC.getD (i + 1) 0) (p + 2)))) = true := h
  obtain ⟨h1, h⟩ := zand h
  obtain ⟨h2, h⟩ := zand h
  have h3 := h
  exact sn_istore (dX_istore h1) (Nat.le_of_ble_eq_true h2) (znx h3)⟩
def zicm1 (nx : Nat) : zI := ⟨(s_push (.inl (-1)) nx, fun _ _ _ _ _ _ i p q b => e0 b 2 && (Nat.beq nx (i + 1) && Nat.beq q (p + 1))), by
  intro own gl ul cl cc nL ret PC i p Hgetf Hputi HcallV h
  have h : (bq0 cc p 2 && (Nat.beq nx (i + 1) && Nat.beq (PC.getD (i + 1) 0) (p + 1))) = true := h
  obtain ⟨h1, h⟩ := zand h
  have h2 := h
  exact sn_iconst (dX_iconst_m1 h1) (znx h2)⟩
def zic0 (nx : Nat) : zI := ⟨(s_push (.inl (0)) nx, fun _ _ _ _ _ _ i p q b => e0 b 3 && (Nat.beq nx (i + 1) && Nat.beq q (p + 1))), by
  intro own gl ul cl cc nL ret PC i p Hgetf Hputi HcallV h
  have h : (bq0 cc p 3 && (Nat.beq nx (i + 1) && Nat.beq (PC.getD (i + 1) 0) (p + 1))) = true := h
  obtain ⟨h1, h⟩ := zand h
  have h2 := h
  exact sn_iconst (dX_iconst_0 h1) (znx h2)⟩
def zic1 (nx : Nat) : zI := ⟨(s_push (.inl (1)) nx, fun _ _ _ _ _ _ i p q b => e0 b 4 && (Nat.beq nx (i + 1) && Nat.beq q (p + 1))), by
  intro own gl ul cl cc nL ret PC i p Hgetf Hputi HcallV h
  have h : (bq0 cc p 4 && (Nat.beq nx (i + 1) && Nat.beq (PC.getD (i + 1) 0) (p + 1))) = true := h
  obtain ⟨h1, h⟩ := zand h
  have h2 := h
  exact sn_iconst (dX_iconst_1 h1) (znx h2)⟩
def zic2 (nx : Nat) : zI := ⟨(s_push (.inl (2)) nx, fun _ _ _ _ _ _ i p q b => e0 b 5 && (Nat.beq nx (i + 1) && Nat.beq q (p + 1))), by
  intro own gl ul cl cc nL ret PC i p Hgetf Hputi HcallV h
  have h : (bq0 cc p 5 && (Nat.beq nx (i + 1) && Nat.beq (PC.getD (i + 1) 0) (p + 1))) = true := h
  obtain ⟨h1, h⟩ := zand h
  have h2 := h
  exact sn_iconst (dX_iconst_2 h1) (znx h2)⟩
def zic3 (nx : Nat) : zI := ⟨(s_push (.inl (3)) nx, fun _ _ _ _ _ _ i p q b => e0 b 6 && (Nat.beq nx (i + 1) && Nat.beq q (p + 1))), by
  intro own gl ul cl cc nL ret PC i p Hgetf Hputi HcallV h
  have h : (bq0 cc p 6 && (Nat.beq nx (i + 1) && Nat.beq (PC.getD (i + 1) 0) (p + 1))) = true := h
  obtain ⟨h1, h⟩ := zand h
  have h2 := h
  exact sn_iconst (dX_iconst_3 h1) (znx h2)⟩
def zic4 (nx : Nat) : zI := ⟨(s_push (.inl (4)) nx, fun _ _ _ _ _ _ i p q b => e0 b 7 && (Nat.beq nx (i + 1) && Nat.beq q (p + 1))), by
  intro own gl ul cl cc nL ret PC i p Hgetf Hputi HcallV h
  have h : (bq0 cc p 7 && (Nat.beq nx (i + 1) && Nat.beq (PC.getD (i + 1) 0) (p + 1))) = true := h
  obtain ⟨h1, h⟩ := zand h
  have h2 := h
  exact sn_iconst (dX_iconst_4 h1) (znx h2)⟩
def zic5 (nx : Nat) : zI := ⟨(s_push (.inl (5)) nx, fun _ _ _ _ _ _ i p q b => e0 b 8 && (Nat.beq nx (i + 1) && Nat.beq q (p + 1))), by
  intro own gl ul cl cc nL ret PC i p Hgetf Hputi HcallV h
  have h : (bq0 cc p 8 && (Nat.beq nx (i + 1) && Nat.beq (PC.getD (i + 1) 0) (p + 1))) = true := h
  obtain ⟨h1, h⟩ := zand h
  have h2 := h
  exact sn_iconst (dX_iconst_5 h1) (znx h2)⟩
def zbi (n : Int) (nx : Nat) : zI := ⟨(s_push (.inl n) nx, fun _ _ _ _ _ _ i p q b => e1 b 16 (fun a => decide (Jvm.ClassFile.Reader.signed 8 a = n)) && (decide ((Int8.ofInt n).toInt32 = iI n) && (Nat.beq nx (i + 1) && Nat.beq q (p + 2)))), by
  intro own gl ul cl cc nL ret PC i p Hgetf Hputi HcallV h
  have h : (bq1 cc p 16 (fun a => decide (Jvm.ClassFile.Reader.signed 8 a = n)) && (decide ((Int8.ofInt n).toInt32 = iI n) && (Nat.beq nx (i + 1) && Nat.beq (PC.getD (i + 1) 0) (p + 2)))) = true := h
  obtain ⟨h1, h⟩ := zand h
  obtain ⟨h2, h⟩ := zand h
  have h3 := h
  exact sn_bipush (dX_bipush h1) (of_decide_eq_true h2) (znx h3)⟩
def zsi (n : Int) (nx : Nat) : zI := ⟨(s_push (.inl n) nx, fun _ _ _ _ _ _ i p q b => e2 b 17 (fun a b => decide (Jvm.ClassFile.Reader.signed 16 (a * 256 + b) = n)) && (decide ((Int16.ofInt n).toInt32 = iI n) && (Nat.beq nx (i + 1) && Nat.beq q (p + 3)))), by
  intro own gl ul cl cc nL ret PC i p Hgetf Hputi HcallV h
  have h : (bq2 cc p 17 (fun a b => decide (Jvm.ClassFile.Reader.signed 16 (a * 256 + b) = n)) && (decide ((Int16.ofInt n).toInt32 = iI n) && (Nat.beq nx (i + 1) && Nat.beq (PC.getD (i + 1) 0) (p + 3)))) = true := h
  obtain ⟨h1, h⟩ := zand h
  obtain ⟨h2, h⟩ := zand h
  have h3 := h
  exact sn_sipush (dX_sipush h1) (of_decide_eq_true h2) (znx h3)⟩
def zgo (t : Nat) : zI := ⟨(s_goto t, fun _ _ _ _ _ PC _ p _ b => e2 b 167 (fun a b => decide (Jvm.ClassFile.Reader.signed 16 (a * 256 + b) = ((PC.getD t 0 : Nat) : Int) - (p : Int)))), by
  intro own gl ul cl cc nL ret PC i p Hgetf Hputi HcallV h
  have h : (bq2 cc p 167 (fun a b => decide (Jvm.ClassFile.Reader.signed 16 (a * 256 + b) = ((PC.getD t 0 : Nat) : Int) - (p : Int)))) = true := h
  have h1 := h
  exact sn_goto (dX_goto h1) (by show (p : Int) + (((PC.getD t 0 : Nat) : Int) - (p : Int)) = ((PC.getD t 0 : Nat) : Int); omega)⟩
def zifeq (t : Nat) (nx : Nat) : zI := ⟨(s_if (fun x => eq32 x 0) (fun _ => inferInstance) t nx, fun _ _ _ _ _ PC i p q b => e2 b 153 (fun a b => decide (Jvm.ClassFile.Reader.signed 16 (a * 256 + b) = ((PC.getD t 0 : Nat) : Int) - (p : Int))) && (Nat.beq nx (i + 1) && Nat.beq q (p + 3))), by
  intro own gl ul cl cc nL ret PC i p Hgetf Hputi HcallV h
  have h : (bq2 cc p 153 (fun a b => decide (Jvm.ClassFile.Reader.signed 16 (a * 256 + b) = ((PC.getD t 0 : Nat) : Int) - (p : Int))) && (Nat.beq nx (i + 1) && Nat.beq (PC.getD (i + 1) 0) (p + 3))) = true := h
  obtain ⟨h1, h⟩ := zand h
  have h2 := h
  exact sn_if_eq (dX_ifeq h1) (by show (p : Int) + (((PC.getD t 0 : Nat) : Int) - (p : Int)) = ((PC.getD t 0 : Nat) : Int); omega) (znx h2)⟩
def zifne (t : Nat) (nx : Nat) : zI := ⟨(s_if (fun x => ¬ eq32 x 0) (fun _ => inferInstance) t nx, fun _ _ _ _ _ PC i p q b => e2 b 154 (fun a b => decide (Jvm.ClassFile.Reader.signed 16 (a * 256 + b) = ((PC.getD t 0 : Nat) : Int) - (p : Int))) && (Nat.beq nx (i + 1) && Nat.beq q (p + 3))), by
  intro own gl ul cl cc nL ret PC i p Hgetf Hputi HcallV h
  have h : (bq2 cc p 154 (fun a b => decide (Jvm.ClassFile.Reader.signed 16 (a * 256 + b) = ((PC.getD t 0 : Nat) : Int) - (p : Int))) && (Nat.beq nx (i + 1) && Nat.beq (PC.getD (i + 1) 0) (p + 3))) = true := h
  obtain ⟨h1, h⟩ := zand h
  have h2 := h
  exact sn_if_ne (dX_ifne h1) (by show (p : Int) + (((PC.getD t 0 : Nat) : Int) - (p : Int)) = ((PC.getD t 0 : Nat) : Int); omega) (znx h2)⟩
def ziflt (t : Nat) (nx : Nat) : zI := ⟨(s_if (fun x => lt32 x 0) (fun _ => inferInstance) t nx, fun _ _ _ _ _ PC i p q b => e2 b 155 (fun a b => decide (Jvm.ClassFile.Reader.signed 16 (a * 256 + b) = ((PC.getD t 0 : Nat) : Int) - (p : Int))) && (Nat.beq nx (i + 1) && Nat.beq q (p + 3))), by
  intro own gl ul cl cc nL ret PC i p Hgetf Hputi HcallV h
  have h : (bq2 cc p 155 (fun a b => decide (Jvm.ClassFile.Reader.signed 16 (a * 256 + b) = ((PC.getD t 0 : Nat) : Int) - (p : Int))) && (Nat.beq nx (i + 1) && Nat.beq (PC.getD (i + 1) 0) (p + 3))) = true := h
  obtain ⟨h1, h⟩ := zand h
  have h2 := h
  exact sn_if_lt (dX_iflt h1) (by show (p : Int) + (((PC.getD t 0 : Nat) : Int) - (p : Int)) = ((PC.getD t 0 : Nat) : Int); omega) (znx h2)⟩
def zifge (t : Nat) (nx : Nat) : zI := ⟨(s_if (fun x => le32 0 x) (fun _ => inferInstance) t nx, fun _ _ _ _ _ PC i p q b => e2 b 156 (fun a b => decide (Jvm.ClassFile.Reader.signed 16 (a * 256 + b) = ((PC.getD t 0 : Nat) : Int) - (p : Int))) && (Nat.beq nx (i + 1) && Nat.beq q (p + 3))), by
  intro own gl ul cl cc nL ret PC i p Hgetf Hputi HcallV h
  have h : (bq2 cc p 156 (fun a b => decide (Jvm.ClassFile.Reader.signed 16 (a * 256 + b) = ((PC.getD t 0 : Nat) : Int) - (p : Int))) && (Nat.beq nx (i + 1) && Nat.beq (PC.getD (i + 1) 0) (p + 3))) = true := h
  obtain ⟨h1, h⟩ := zand h
  have h2 := h
  exact sn_if_ge (dX_ifge h1) (by show (p : Int) + (((PC.getD t 0 : Nat) : Int) - (p : Int)) = ((PC.getD t 0 : Nat) : Int); omega) (znx h2)⟩
def zifgt (t : Nat) (nx : Nat) : zI := ⟨(s_if (fun x => lt32 0 x) (fun _ => inferInstance) t nx, fun _ _ _ _ _ PC i p q b => e2 b 157 (fun a b => decide (Jvm.ClassFile.Reader.signed 16 (a * 256 + b) = ((PC.getD t 0 : Nat) : Int) - (p : Int))) && (Nat.beq nx (i + 1) && Nat.beq q (p + 3))), by
  intro own gl ul cl cc nL ret PC i p Hgetf Hputi HcallV h
  have h : (bq2 cc p 157 (fun a b => decide (Jvm.ClassFile.Reader.signed 16 (a * 256 + b) = ((PC.getD t 0 : Nat) : Int) - (p : Int))) && (Nat.beq nx (i + 1) && Nat.beq (PC.getD (i + 1) 0) (p + 3))) = true := h
  obtain ⟨h1, h⟩ := zand h
  have h2 := h
  exact sn_if_gt (dX_ifgt h1) (by show (p : Int) + (((PC.getD t 0 : Nat) : Int) - (p : Int)) = ((PC.getD t 0 : Nat) : Int); omega) (znx h2)⟩
def zifle (t : Nat) (nx : Nat) : zI := ⟨(s_if (fun x => le32 x 0) (fun _ => inferInstance) t nx, fun _ _ _ _ _ PC i p q b => e2 b 158 (fun a b => decide (Jvm.ClassFile.Reader.signed 16 (a * 256 + b) = ((PC.getD t 0 : Nat) : Int) - (p : Int))) && (Nat.beq nx (i + 1) && Nat.beq q (p + 3))), by
  intro own gl ul cl cc nL ret PC i p Hgetf Hputi HcallV h
  have h : (bq2 cc p 158 (fun a b => decide (Jvm.ClassFile.Reader.signed 16 (a * 256 + b) = ((PC.getD t 0 : Nat) : Int) - (p : Int))) && (Nat.beq nx (i + 1) && Nat.beq (PC.getD (i + 1) 0) (p + 3))) = true := h
  obtain ⟨h1, h⟩ := zand h
  have h2 := h
  exact sn_if_le (dX_ifle h1) (by show (p : Int) + (((PC.getD t 0 : Nat) : Int) - (p : Int)) = ((PC.getD t 0 : Nat) : Int); omega) (znx h2)⟩
def ziceq (t : Nat) (nx : Nat) : zI := ⟨(s_if2 (fun x y => eq32 x y) (fun _ _ => inferInstance) t nx, fun _ _ _ _ _ PC i p q b => e2 b 159 (fun a b => decide (Jvm.ClassFile.Reader.signed 16 (a * 256 + b) = ((PC.getD t 0 : Nat) : Int) - (p : Int))) && (Nat.beq nx (i + 1) && Nat.beq q (p + 3))), by
  intro own gl ul cl cc nL ret PC i p Hgetf Hputi HcallV h
  have h : (bq2 cc p 159 (fun a b => decide (Jvm.ClassFile.Reader.signed 16 (a * 256 + b) = ((PC.getD t 0 : Nat) : Int) - (p : Int))) && (Nat.beq nx (i + 1) && Nat.beq (PC.getD (i + 1) 0) (p + 3))) = true := h
  obtain ⟨h1, h⟩ := zand h
  have h2 := h
  exact sn_icmp_eq (dX_if_icmpeq h1) (by show (p : Int) + (((PC.getD t 0 : Nat) : Int) - (p : Int)) = ((PC.getD t 0 : Nat) : Int); omega) (znx h2)⟩
def zicne (t : Nat) (nx : Nat) : zI := ⟨(s_if2 (fun x y => ¬ eq32 x y) (fun _ _ => inferInstance) t nx, fun _ _ _ _ _ PC i p q b => e2 b 160 (fun a b => decide (Jvm.ClassFile.Reader.signed 16 (a * 256 + b) = ((PC.getD t 0 : Nat) : Int) - (p : Int))) && (Nat.beq nx (i + 1) && Nat.beq q (p + 3))), by
  intro own gl ul cl cc nL ret PC i p Hgetf Hputi HcallV h
  have h : (bq2 cc p 160 (fun a b => decide (Jvm.ClassFile.Reader.signed 16 (a * 256 + b) = ((PC.getD t 0 : Nat) : Int) - (p : Int))) && (Nat.beq nx (i + 1) && Nat.beq (PC.getD (i + 1) 0) (p + 3))) = true := h
  obtain ⟨h1, h⟩ := zand h
  have h2 := h
  exact sn_icmp_ne (dX_if_icmpne h1) (by show (p : Int) + (((PC.getD t 0 : Nat) : Int) - (p : Int)) = ((PC.getD t 0 : Nat) : Int); omega) (znx h2)⟩
def ziclt (t : Nat) (nx : Nat) : zI := ⟨(s_if2 (fun x y => lt32 x y) (fun _ _ => inferInstance) t nx, fun _ _ _ _ _ PC i p q b => e2 b 161 (fun a b => decide (Jvm.ClassFile.Reader.signed 16 (a * 256 + b) = ((PC.getD t 0 : Nat) : Int) - (p : Int))) && (Nat.beq nx (i + 1) && Nat.beq q (p + 3))), by
  intro own gl ul cl cc nL ret PC i p Hgetf Hputi HcallV h
  have h : (bq2 cc p 161 (fun a b => decide (Jvm.ClassFile.Reader.signed 16 (a * 256 + b) = ((PC.getD t 0 : Nat) : Int) - (p : Int))) && (Nat.beq nx (i + 1) && Nat.beq (PC.getD (i + 1) 0) (p + 3))) = true := h
  obtain ⟨h1, h⟩ := zand h
  have h2 := h
  exact sn_icmp_lt (dX_if_icmplt h1) (by show (p : Int) + (((PC.getD t 0 : Nat) : Int) - (p : Int)) = ((PC.getD t 0 : Nat) : Int); omega) (znx h2)⟩
def zicge (t : Nat) (nx : Nat) : zI := ⟨(s_if2 (fun x y => le32 y x) (fun _ _ => inferInstance) t nx, fun _ _ _ _ _ PC i p q b => e2 b 162 (fun a b => decide (Jvm.ClassFile.Reader.signed 16 (a * 256 + b) = ((PC.getD t 0 : Nat) : Int) - (p : Int))) && (Nat.beq nx (i + 1) && Nat.beq q (p + 3))), by
  intro own gl ul cl cc nL ret PC i p Hgetf Hputi HcallV h
  have h : (bq2 cc p 162 (fun a b => decide (Jvm.ClassFile.Reader.signed 16 (a * 256 + b) = ((PC.getD t 0 : Nat) : Int) - (p : Int))) && (Nat.beq nx (i + 1) && Nat.beq (PC.getD (i + 1) 0) (p + 3))) = true := h
  obtain ⟨h1, h⟩ := zand h
  have h2 := h
  exact sn_icmp_ge (dX_if_icmpge h1) (by show (p : Int) + (((PC.getD t 0 : Nat) : Int) - (p : Int)) = ((PC.getD t 0 : Nat) : Int); omega) (znx h2)⟩
def zicgt (t : Nat) (nx : Nat) : zI := ⟨(s_if2 (fun x y => lt32 y x) (fun _ _ => inferInstance) t nx, fun _ _ _ _ _ PC i p q b => e2 b 163 (fun a b => decide (Jvm.ClassFile.Reader.signed 16 (a * 256 + b) = ((PC.getD t 0 : Nat) : Int) - (p : Int))) && (Nat.beq nx (i + 1) && Nat.beq q (p + 3))), by
  intro own gl ul cl cc nL ret PC i p Hgetf Hputi HcallV h
  have h : (bq2 cc p 163 (fun a b => decide (Jvm.ClassFile.Reader.signed 16 (a * 256 + b) = ((PC.getD t 0 : Nat) : Int) - (p : Int))) && (Nat.beq nx (i + 1) && Nat.beq (PC.getD (i + 1) 0) (p + 3))) = true := h
  obtain ⟨h1, h⟩ := zand h
  have h2 := h
  exact sn_icmp_gt (dX_if_icmpgt h1) (by show (p : Int) + (((PC.getD t 0 : Nat) : Int) - (p : Int)) = ((PC.getD t 0 : Nat) : Int); omega) (znx h2)⟩
def zicle (t : Nat) (nx : Nat) : zI := ⟨(s_if2 (fun x y => le32 x y) (fun _ _ => inferInstance) t nx, fun _ _ _ _ _ PC i p q b => e2 b 164 (fun a b => decide (Jvm.ClassFile.Reader.signed 16 (a * 256 + b) = ((PC.getD t 0 : Nat) : Int) - (p : Int))) && (Nat.beq nx (i + 1) && Nat.beq q (p + 3))), by
  intro own gl ul cl cc nL ret PC i p Hgetf Hputi HcallV h
  have h : (bq2 cc p 164 (fun a b => decide (Jvm.ClassFile.Reader.signed 16 (a * 256 + b) = ((PC.getD t 0 : Nat) : Int) - (p : Int))) && (Nat.beq nx (i + 1) && Nat.beq (PC.getD (i + 1) 0) (p + 3))) = true := h
  obtain ⟨h1, h⟩ := zand h
  have h2 := h
  exact sn_icmp_le (dX_if_icmple h1) (by show (p : Int) + (((PC.getD t 0 : Nat) : Int) - (p : Int)) = ((PC.getD t 0 : Nat) : Int); omega) (znx h2)⟩
def zinc (k : Nat) (n : Int) (nx : Nat) : zI := ⟨(s_inc k n nx, fun _ _ _ nL _ _ i p q b => e2 b 132 (fun a b => Nat.beq a k && decide (Jvm.ClassFile.Reader.signed 8 b = n)) && (Nat.ble (k + 1) nL && (Nat.beq nx (i + 1) && Nat.beq q (p + 3)))), by
  intro own gl ul cl cc nL ret PC i p Hgetf Hputi HcallV h
  have h : (bq2 cc p 132 (fun a b => Nat.beq a k && decide (Jvm.ClassFile.Reader.signed 8 b = n)) && (Nat.ble (k + 1) nL && (Nat.beq nx (i + 1) && Nat.beq (PC.getD (i + 1) 0) (p + 3)))) = true := h
  obtain ⟨h1, h⟩ := zand h
  obtain ⟨h2, h⟩ := zand h
  have h3 := h
  exact sn_iinc (dX_iinc h1) (Nat.le_of_ble_eq_true h2) (znx h3)⟩
def ziret  : zI := ⟨(s_iret, fun _ _ _ _ ret _ _ _ _ b => e0 b 172 && zInt ret), by
  intro own gl ul cl cc nL ret PC i p Hgetf Hputi HcallV h
  have h : (bq0 cc p 172 && zInt ret) = true := h
  obtain ⟨h1, h⟩ := zand h
  have h2 := h
  exact sn_iret (zInt_of h2) (dX_ireturn h1)⟩
def zvret  : zI := ⟨(s_vret, fun _ _ _ _ ret _ _ _ _ b => e0 b 177 && zVoid ret), by
  intro own gl ul cl cc nL ret PC i p Hgetf Hputi HcallV h
  have h : (bq0 cc p 177 && zVoid ret) = true := h
  obtain ⟨h1, h⟩ := zand h
  have h2 := h
  exact sn_vret (zVoid_of h2) (dX_return h1)⟩
def zgetf (ci : Nat) (k : Nat) (nx : Nat) (idx : Nat) : zI := ⟨(s_getf ci k nx, fun gl _ _ _ _ _ i p q b => e2 b 180 (fun a b => Nat.beq (a * 256 + b) idx) && (zin3 (ci, k, idx) gl && (Nat.beq nx (i + 1) && Nat.beq q (p + 3)))), by
  intro own gl ul cl cc nL ret PC i p Hgetf Hputi HcallV h
  have h : (bq2 cc p 180 (fun a b => Nat.beq (a * 256 + b) idx) && (zin3 (ci, k, idx) gl && (Nat.beq nx (i + 1) && Nat.beq (PC.getD (i + 1) 0) (p + 3)))) = true := h
  obtain ⟨h1, h⟩ := zand h
  obtain ⟨h2, h⟩ := zand h
  have h3 := h
  exact Hgetf _ (zin3_of h2) (dX_getfield h1) (znx h3)⟩
def zputi (ci : Nat) (k : Nat) (nx : Nat) (idx : Nat) : zI := ⟨(s_puti ci k nx, fun _ ul _ _ _ _ i p q b => e2 b 181 (fun a b => Nat.beq (a * 256 + b) idx) && (zin3 (ci, k, idx) ul && (Nat.beq nx (i + 1) && Nat.beq q (p + 3)))), by
  intro own gl ul cl cc nL ret PC i p Hgetf Hputi HcallV h
  have h : (bq2 cc p 181 (fun a b => Nat.beq (a * 256 + b) idx) && (zin3 (ci, k, idx) ul && (Nat.beq nx (i + 1) && Nat.beq (PC.getD (i + 1) 0) (p + 3)))) = true := h
  obtain ⟨h1, h⟩ := zand h
  obtain ⟨h2, h⟩ := zand h
  have h3 := h
  exact Hputi _ (zin3_of h2) (dX_putfield h1) (znx h3)⟩
def zcallV (kd : Nat) (ci : Nat) (k : Nat) (n : Nat) (nx : Nat) (idx : Nat) : zI := ⟨(s_callV kd ci k n nx, fun _ _ cl _ _ _ i p q b => e2 b 182 (fun a b => Nat.beq (a * 256 + b) idx) && (zin5 (kd, ci, k, n, idx) cl && (Nat.beq nx (i + 1) && Nat.beq q (p + 3)))), by
  intro own gl ul cl cc nL ret PC i p Hgetf Hputi HcallV h
  have h : (bq2 cc p 182 (fun a b => Nat.beq (a * 256 + b) idx) && (zin5 (kd, ci, k, n, idx) cl && (Nat.beq nx (i + 1) && Nat.beq (PC.getD (i + 1) 0) (p + 3)))) = true := h
  obtain ⟨h1, h⟩ := zand h
  obtain ⟨h2, h⟩ := zand h
  have h3 := h
  exact HcallV _ (zin5_of h2) (dX_invokevirtual h1) (znx h3)⟩
section ZCK
variable {own : String} {gl ul : List (Nat × Nat × Nat)} {cl : List (Nat × Nat × Nat × Nat × Nat)} {cc : ByteArray} {nL : Nat} {ret : Option FieldType} {PC : List Nat}
def zckE (gl ul : List (Nat × Nat × Nat)) (cl : List (Nat × Nat × Nat × Nat × Nat)) (nL : Nat) (ret : Option FieldType) (PC : List Nat) : Nat → Nat → List UInt8 → List Nat → List zE → Bool
  | _, _, _, _, [] => true
  | i, p, b, rs, .inl x :: l => x.1.2 gl ul cl nL ret PC i p (rs.headD 0) b && ((l.isEmpty || Nat.ble p (rs.headD 0)) && zckE gl ul cl nL ret PC (i + 1) (rs.headD 0) (b.drop (rs.headD 0 - p)) rs.tail l)
  | i, p, b, rs, .inr _ :: l => (l.isEmpty || Nat.ble p (rs.headD 0)) && zckE gl ul cl nL ret PC (i + 1) (rs.headD 0) (b.drop (rs.headD 0 - p)) rs.tail l
def zNon (P : Nat → pS → Prop) : Nat → List zE → Prop
  | _, [] => True
  | i, .inl _ :: l => zNon P (i + 1) l
  | i, .inr f :: l => P i f ∧ zNon P (i + 1) l
theorem z_drop {b : List UInt8} {p q : Nat} (h : Nat.ble p q = true) : (b.drop p).drop (q - p) = b.drop q := by
  have h := Nat.le_of_ble_eq_true h
  rw [List.drop_drop]
  congr 1
  omega
theorem zall_ (Hgetf : ∀ q ∈ gl, zGetf own q) (Hputi : ∀ q ∈ ul, zPuti own q) (HcallV : ∀ q ∈ cl, zCallV own q) (D : List zE) : ∀ (i p : Nat) (b : List UInt8) (rs : List Nat), p = PC.getD i 0 → b = cc.data.toList.drop p → rs = PC.drop (i + 1) → zckE gl ul cl nL ret PC i p b rs D = true → zNon (pSk own cc nL ret PC) i D → pAll (pSk own cc nL ret PC) i (zasm D) := by
  induction D with
  | nil => intro i p b rs _ _ _ _ _; exact trivial
  | cons e l ih =>
    intro i p b rs hp hb hr h hn
    have eq : rs.headD 0 = PC.getD (i + 1) 0 := by rw [hr]; exact z_head PC (i + 1)
    have et : rs.tail = PC.drop (i + 1 + 1) := by rw [hr]; exact z_tail PC (i + 1)
    subst hp
    subst hb
    cases e with
    | inl x =>
      have h : (x.1.2 gl ul cl nL ret PC i (PC.getD i 0) (rs.headD 0) (cc.data.toList.drop (PC.getD i 0)) && ((l.isEmpty || Nat.ble (PC.getD i 0) (rs.headD 0)) && zckE gl ul cl nL ret PC (i + 1) (rs.headD 0) ((cc.data.toList.drop (PC.getD i 0)).drop (rs.headD 0 - PC.getD i 0)) rs.tail l)) = true := h
      obtain ⟨h1, h⟩ := zand h
      obtain ⟨h2, h3⟩ := zand h
      rw [eq] at h1
      refine ⟨x.2 own gl ul cl cc nL ret PC i (PC.getD i 0) Hgetf Hputi HcallV h1, ?_⟩
      cases l with
      | nil => exact trivial
      | cons y l' => exact ih (i + 1) _ _ _ eq (z_drop h2) et h3 hn
    | inr f =>
      have h : ((l.isEmpty || Nat.ble (PC.getD i 0) (rs.headD 0)) && zckE gl ul cl nL ret PC (i + 1) (rs.headD 0) ((cc.data.toList.drop (PC.getD i 0)).drop (rs.headD 0 - PC.getD i 0)) rs.tail l) = true := h
      obtain ⟨h2, h3⟩ := zand h
      refine ⟨hn.1, ?_⟩
      cases l with
      | nil => exact trivial
      | cons y l' => exact ih (i + 1) _ _ _ eq (z_drop h2) et h3 hn.2
theorem zall (Hgetf : ∀ q ∈ gl, zGetf own q) (Hputi : ∀ q ∈ ul, zPuti own q) (HcallV : ∀ q ∈ cl, zCallV own q) {D : List zE} (h : zckE gl ul cl nL ret PC 0 (PC.getD 0 0) (cc.data.toList.drop (PC.getD 0 0)) (PC.drop 1) D = true) (hn : zNon (pSk own cc nL ret PC) 0 D) : pAll (pSk own cc nL ret PC) 0 (zasm D) := zall_ Hgetf Hputi HcallV D 0 _ _ _ rfl rfl rfl h hn
end ZCK
def zgetf_RJ0 : List (Nat × Nat × Nat) := []
theorem zgetf_RJ0_ok : ∀ q ∈ zgetf_RJ0, zGetf RJ0 q := fun _ h => absurd h List.not_mem_nil
def zputi_RJ0 : List (Nat × Nat × Nat) := []
theorem zputi_RJ0_ok : ∀ q ∈ zputi_RJ0, zPuti RJ0 q := fun _ h => absurd h List.not_mem_nil
def zcallV_RJ0 : List (Nat × Nat × Nat × Nat × Nat) := []
theorem zcallV_RJ0_ok : ∀ q ∈ zcallV_RJ0, zCallV RJ0 q := fun _ h => absurd h List.not_mem_nil
def zgetf_RJ1 : List (Nat × Nat × Nat) := []
theorem zgetf_RJ1_ok : ∀ q ∈ zgetf_RJ1, zGetf RJ1 q := fun _ h => absurd h List.not_mem_nil
def zputi_RJ1 : List (Nat × Nat × Nat) := []
theorem zputi_RJ1_ok : ∀ q ∈ zputi_RJ1, zPuti RJ1 q := fun _ h => absurd h List.not_mem_nil
def zcallV_RJ1 : List (Nat × Nat × Nat × Nat × Nat) := []
theorem zcallV_RJ1_ok : ∀ q ∈ zcallV_RJ1, zCallV RJ1 q := fun _ h => absurd h List.not_mem_nil
def zgetf_RJ6 : List (Nat × Nat × Nat) := []
theorem zgetf_RJ6_ok : ∀ q ∈ zgetf_RJ6, zGetf RJ6 q := fun _ h => absurd h List.not_mem_nil
def zputi_RJ6 : List (Nat × Nat × Nat) := []
theorem zputi_RJ6_ok : ∀ q ∈ zputi_RJ6, zPuti RJ6 q := fun _ h => absurd h List.not_mem_nil
def zcallV_RJ6 : List (Nat × Nat × Nat × Nat × Nat) := []
theorem zcallV_RJ6_ok : ∀ q ∈ zcallV_RJ6, zCallV RJ6 q := fun _ h => absurd h List.not_mem_nil
def zgetf_RX0 : List (Nat × Nat × Nat) := [(0, 0, 9), (0, 1, 15), (0, 2, 18), (0, 3, 21), (0, 4, 24), (0, 5, 27), (0, 6, 30), (0, 7, 33), (0, 8, 36), (0, 9, 43), (0, 10, 47), (0, 11, 50), (0, 12, 53)]
theorem zgetf_RX0_0 : zGetf RX0 (0, 0, 9) := fun hd hn => sn_getf (C := RX0) (T := TX0) (N := 13) (idx := 9) rfl pin0 (by decide) (by decide) rfl (pmt1 105 rfl (by decide +kernel)) rfl hd hn
theorem zgetf_RX0_1 : zGetf RX0 (0, 1, 15) := fun hd hn => sn_getf (C := RX0) (T := TX0) (N := 13) (idx := 15) rfl pin0 (by decide) (by decide) rfl (pmt1 109 rfl (by decide +kernel)) rfl hd hn
theorem zgetf_RX0_2 : zGetf RX0 (0, 2, 18) := fun hd hn => sn_getf (C := RX0) (T := TX0) (N := 13) (idx := 18) rfl pin0 (by decide) (by decide) rfl (pmt1 110 rfl (by decide +kernel)) rfl hd hn
theorem zgetf_RX0_3 : zGetf RX0 (0, 3, 21) := fun hd hn => sn_getf (C := RX0) (T := TX0) (N := 13) (idx := 21) rfl pin0 (by decide) (by decide) rfl (pmt1 113 rfl (by decide +kernel)) rfl hd hn
theorem zgetf_RX0_4 : zGetf RX0 (0, 4, 24) := fun hd hn => sn_getf (C := RX0) (T := TX0) (N := 13) (idx := 24) rfl pin0 (by decide) (by decide) rfl (pmt1 116 rfl (by decide +kernel)) rfl hd hn
theorem zgetf_RX0_5 : zGetf RX0 (0, 5, 27) := fun hd hn => sn_getf (C := RX0) (T := TX0) (N := 13) (idx := 27) rfl pin0 (by decide) (by decide) rfl (pmt1 119 rfl (by decide +kernel)) rfl hd hn
theorem zgetf_RX0_6 : zGetf RX0 (0, 6, 30) := fun hd hn => sn_getf (C := RX0) (T := TX0) (N := 13) (idx := 30) rfl pin0 (by decide) (by decide) rfl (pmt1 125 rfl (by decide +kernel)) rfl hd hn
theorem zgetf_RX0_7 : zGetf RX0 (0, 7, 33) := fun hd hn => sn_getf (C := RX0) (T := TX0) (N := 13) (idx := 33) rfl pin0 (by decide) (by decide) rfl (pmt1 127 rfl (by decide +kernel)) rfl hd hn
theorem zgetf_RX0_8 : zGetf RX0 (0, 8, 36) := fun hd hn => sn_getf (C := RX0) (T := TX0) (N := 13) (idx := 36) rfl pin0 (by decide) (by decide) rfl (pmt1 129 rfl (by decide +kernel)) rfl hd hn
theorem zgetf_RX0_9 : zGetf RX0 (0, 9, 43) := fun hd hn => sn_getf (C := RX0) (T := TX0) (N := 13) (idx := 43) rfl pin0 (by decide) (by decide) rfl (pmt1 135 rfl (by decide +kernel)) rfl hd hn
theorem zgetf_RX0_10 : zGetf RX0 (0, 10, 47) := fun hd hn => sn_getf (C := RX0) (T := TX0) (N := 13) (idx := 47) rfl pin0 (by decide) (by decide) rfl (pmt1 139 rfl (by decide +kernel)) rfl hd hn
theorem zgetf_RX0_11 : zGetf RX0 (0, 11, 50) := fun hd hn => sn_getf (C := RX0) (T := TX0) (N := 13) (idx := 50) rfl pin0 (by decide) (by decide) rfl (pmt1 144 rfl (by decide +kernel)) rfl hd hn
theorem zgetf_RX0_12 : zGetf RX0 (0, 12, 53) := fun hd hn => sn_getf (C := RX0) (T := TX0) (N := 13) (idx := 53) rfl pin0 (by decide) (by decide) rfl (pmt1 149 rfl (by decide +kernel)) rfl hd hn
theorem zgetf_RX0_ok : ∀ q ∈ zgetf_RX0, zGetf RX0 q := List.forall_mem_cons.mpr ⟨zgetf_RX0_0, List.forall_mem_cons.mpr ⟨zgetf_RX0_1, List.forall_mem_cons.mpr ⟨zgetf_RX0_2, List.forall_mem_cons.mpr ⟨zgetf_RX0_3, List.forall_mem_cons.mpr ⟨zgetf_RX0_4, List.forall_mem_cons.mpr ⟨zgetf_RX0_5, List.forall_mem_cons.mpr ⟨zgetf_RX0_6, List.forall_mem_cons.mpr ⟨zgetf_RX0_7, List.forall_mem_cons.mpr ⟨zgetf_RX0_8, List.forall_mem_cons.mpr ⟨zgetf_RX0_9, List.forall_mem_cons.mpr ⟨zgetf_RX0_10, List.forall_mem_cons.mpr ⟨zgetf_RX0_11, List.forall_mem_cons.mpr ⟨zgetf_RX0_12, fun _ h => absurd h List.not_mem_nil⟩⟩⟩⟩⟩⟩⟩⟩⟩⟩⟩⟩⟩
def zputi_RX0 : List (Nat × Nat × Nat) := [(0, 9, 43), (0, 10, 47), (0, 11, 50), (0, 12, 53)]
theorem zputi_RX0_0 : zPuti RX0 (0, 9, 43) := fun hd hn => sn_puti (C := RX0) (T := TX0) (N := 13) (idx := 43) rfl pin0 (by decide) (by decide) rfl tyX0 tyX0_ok nmX0 rfl rfl (by decide +kernel) (pmt1 135 rfl (by decide +kernel)) rfl hd hn
theorem zputi_RX0_1 : zPuti RX0 (0, 10, 47) := fun hd hn => sn_puti (C := RX0) (T := TX0) (N := 13) (idx := 47) rfl pin0 (by decide) (by decide) rfl tyX0 tyX0_ok nmX0 rfl rfl (by decide +kernel) (pmt1 139 rfl (by decide +kernel)) rfl hd hn
theorem zputi_RX0_2 : zPuti RX0 (0, 11, 50) := fun hd hn => sn_puti (C := RX0) (T := TX0) (N := 13) (idx := 50) rfl pin0 (by decide) (by decide) rfl tyX0 tyX0_ok nmX0 rfl rfl (by decide +kernel) (pmt1 144 rfl (by decide +kernel)) rfl hd hn
theorem zputi_RX0_3 : zPuti RX0 (0, 12, 53) := fun hd hn => sn_puti (C := RX0) (T := TX0) (N := 13) (idx := 53) rfl pin0 (by decide) (by decide) rfl tyX0 tyX0_ok nmX0 rfl rfl (by decide +kernel) (pmt1 149 rfl (by decide +kernel)) rfl hd hn
theorem zputi_RX0_ok : ∀ q ∈ zputi_RX0, zPuti RX0 q := List.forall_mem_cons.mpr ⟨zputi_RX0_0, List.forall_mem_cons.mpr ⟨zputi_RX0_1, List.forall_mem_cons.mpr ⟨zputi_RX0_2, List.forall_mem_cons.mpr ⟨zputi_RX0_3, fun _ h => absurd h List.not_mem_nil⟩⟩⟩⟩
def zcallV_RX0 : List (Nat × Nat × Nat × Nat × Nat) := [(0, 0, 73, 3, 105), (0, 0, 99, 1, 140), (1, 0, 63, 1, 56), (1, 0, 64, 1, 95), (1, 0, 65, 2, 60), (1, 0, 67, 0, 133), (1, 0, 68, 0, 137), (1, 0, 74, 2, 82), (1, 0, 77, 2, 64), (1, 0, 78, 2, 88), (1, 0, 80, 3, 91), (1, 0, 82, 3, 102), (1, 0, 86, 2, 109), (1, 0, 87, 2, 116), (1, 0, 88, 1, 127), (1, 0, 89, 1, 123), (1, 0, 90, 2, 119), (1, 0, 93, 1, 147), (1, 0, 96, 3, 130), (1, 0, 102, 1, 113)]
theorem zcallV_RX0_0 : zCallV RX0 (0, 0, 73, 3, 105) := fun hd hn => sn_callV (idx := 105) (C := RX0) (T := TX0) (N := 13) rfl (by decide) cal_73 (pmt5 133 rfl (by decide +kernel)) (pmt3 17 rfl (by decide +kernel)) (pmt3 18 rfl (by decide +kernel)) hd hn
theorem zcallV_RX0_1 : zCallV RX0 (0, 0, 99, 1, 140) := fun hd hn => sn_callV (idx := 140) (C := RX0) (T := TX0) (N := 13) rfl (by decide) cal_99 (pmt3 76 rfl (by decide +kernel)) (pmt3 78 rfl (by decide +kernel)) (pms 6 rfl rfl) hd hn
theorem zcallV_RX0_2 : zCallV RX0 (1, 0, 63, 1, 56) := fun hd hn => sn_callV (idx := 56) (C := RX0) (T := TX0) (N := 13) rfl (by decide) cal_63 (pmt3 24 rfl (by decide +kernel)) (pmt3 25 rfl (by decide +kernel)) (pmt3 26 rfl (by decide +kernel)) hd hn
theorem zcallV_RX0_3 : zCallV RX0 (1, 0, 64, 1, 95) := fun hd hn => sn_callV (idx := 95) (C := RX0) (T := TX0) (N := 13) rfl (by decide) cal_64 (pmt4 31 rfl (by decide +kernel)) (pmt4 20 rfl (by decide +kernel)) (pmt4 21 rfl (by decide +kernel)) hd hn
theorem zcallV_RX0_4 : zCallV RX0 (1, 0, 65, 2, 60) := fun hd hn => sn_callV (idx := 60) (C := RX0) (T := TX0) (N := 13) rfl (by decide) cal_65 (pmt3 20 rfl (by decide +kernel)) (pmt3 21 rfl (by decide +kernel)) (pmt3 22 rfl (by decide +kernel)) hd hn
theorem zcallV_RX0_5 : zCallV RX0 (1, 0, 67, 0, 133) := fun hd hn => sn_callV (idx := 133) (C := RX0) (T := TX0) (N := 13) rfl (by decide) cal_67 (pmt3 61 rfl (by decide +kernel)) (pmt3 62 rfl (by decide +kernel)) (pmt3 63 rfl (by decide +kernel)) hd hn
theorem zcallV_RX0_6 : zCallV RX0 (1, 0, 68, 0, 137) := fun hd hn => sn_callV (idx := 137) (C := RX0) (T := TX0) (N := 13) rfl (by decide) cal_68 (pmt3 68 rfl (by decide +kernel)) (pmt3 69 rfl (by decide +kernel)) (pmt3 70 rfl (by decide +kernel)) hd hn
theorem zcallV_RX0_7 : zCallV RX0 (1, 0, 74, 2, 82) := fun hd hn => sn_callV (idx := 82) (C := RX0) (T := TX0) (N := 13) rfl (by decide) cal_74 (pmt5 5 rfl (by decide +kernel)) (pmt3 229 rfl (by decide +kernel)) (pmt3 230 rfl (by decide +kernel)) hd hn
theorem zcallV_RX0_8 : zCallV RX0 (1, 0, 77, 2, 64) := fun hd hn => sn_callV (idx := 64) (C := RX0) (T := TX0) (N := 13) rfl (by decide) cal_77 (pmt6 39 rfl (by decide +kernel)) (pmt5 2 rfl (by decide +kernel)) (pmt5 3 rfl (by decide +kernel)) hd hn
theorem zcallV_RX0_9 : zCallV RX0 (1, 0, 78, 2, 88) := fun hd hn => sn_callV (idx := 88) (C := RX0) (T := TX0) (N := 13) rfl (by decide) cal_78 (pmt4 36 rfl (by decide +kernel)) (pmt4 38 rfl (by decide +kernel)) (pms 15 rfl rfl) hd hn
theorem zcallV_RX0_10 : zCallV RX0 (1, 0, 80, 3, 91) := fun hd hn => sn_callV (idx := 91) (C := RX0) (T := TX0) (N := 13) rfl (by decide) cal_80 (pmt4 32 rfl (by decide +kernel)) (pmt4 33 rfl (by decide +kernel)) (pmt4 34 rfl (by decide +kernel)) hd hn
theorem zcallV_RX0_11 : zCallV RX0 (1, 0, 82, 3, 102) := fun hd hn => sn_callV (idx := 102) (C := RX0) (T := TX0) (N := 13) rfl (by decide) cal_82 (pmt5 85 rfl (by decide +kernel)) (pmt4 28 rfl (by decide +kernel)) (pmt4 29 rfl (by decide +kernel)) hd hn
theorem zcallV_RX0_12 : zCallV RX0 (1, 0, 86, 2, 109) := fun hd hn => sn_callV (idx := 109) (C := RX0) (T := TX0) (N := 13) rfl (by decide) cal_86 (pmt4 64 rfl (by decide +kernel)) (pmt4 65 rfl (by decide +kernel)) (pmt4 66 rfl (by decide +kernel)) hd hn
theorem zcallV_RX0_13 : zCallV RX0 (1, 0, 87, 2, 116) := fun hd hn => sn_callV (idx := 116) (C := RX0) (T := TX0) (N := 13) rfl (by decide) cal_87 (pmt4 73 rfl (by decide +kernel)) (pmt4 74 rfl (by decide +kernel)) (pmt4 75 rfl (by decide +kernel)) hd hn
theorem zcallV_RX0_14 : zCallV RX0 (1, 0, 88, 1, 127) := fun hd hn => sn_callV (idx := 127) (C := RX0) (T := TX0) (N := 13) rfl (by decide) cal_88 (pmt4 122 rfl (by decide +kernel)) (pmt4 70 rfl (by decide +kernel)) (pmt4 71 rfl (by decide +kernel)) hd hn
theorem zcallV_RX0_15 : zCallV RX0 (1, 0, 89, 1, 123) := fun hd hn => sn_callV (idx := 123) (C := RX0) (T := TX0) (N := 13) rfl (by decide) cal_89 (pmt4 121 rfl (by decide +kernel)) (pmt4 57 rfl (by decide +kernel)) (pmt4 58 rfl (by decide +kernel)) hd hn
theorem zcallV_RX0_16 : zCallV RX0 (1, 0, 90, 2, 119) := fun hd hn => sn_callV (idx := 119) (C := RX0) (T := TX0) (N := 13) rfl (by decide) cal_90 (pmt4 60 rfl (by decide +kernel)) (pmt4 62 rfl (by decide +kernel)) (pms 18 rfl rfl) hd hn
theorem zcallV_RX0_17 : zCallV RX0 (1, 0, 93, 1, 147) := fun hd hn => sn_callV (idx := 147) (C := RX0) (T := TX0) (N := 13) rfl (by decide) cal_93 (pmt5 49 rfl (by decide +kernel)) (pmt4 232 rfl (by decide +kernel)) (pmt4 233 rfl (by decide +kernel)) hd hn
theorem zcallV_RX0_18 : zCallV RX0 (1, 0, 96, 3, 130) := fun hd hn => sn_callV (idx := 130) (C := RX0) (T := TX0) (N := 13) rfl (by decide) cal_96 (pmt3 72 rfl (by decide +kernel)) (pmt3 74 rfl (by decide +kernel)) (pms 5 rfl rfl) hd hn
theorem zcallV_RX0_19 : zCallV RX0 (1, 0, 102, 1, 113) := fun hd hn => sn_callV (idx := 113) (C := RX0) (T := TX0) (N := 13) rfl (by decide) cal_102 (pmt4 77 rfl (by decide +kernel)) (pmt4 78 rfl (by decide +kernel)) (pmt4 79 rfl (by decide +kernel)) hd hn
theorem zcallV_RX0_ok : ∀ q ∈ zcallV_RX0, zCallV RX0 q := List.forall_mem_cons.mpr ⟨zcallV_RX0_0, List.forall_mem_cons.mpr ⟨zcallV_RX0_1, List.forall_mem_cons.mpr ⟨zcallV_RX0_2, List.forall_mem_cons.mpr ⟨zcallV_RX0_3, List.forall_mem_cons.mpr ⟨zcallV_RX0_4, List.forall_mem_cons.mpr ⟨zcallV_RX0_5, List.forall_mem_cons.mpr ⟨zcallV_RX0_6, List.forall_mem_cons.mpr ⟨zcallV_RX0_7, List.forall_mem_cons.mpr ⟨zcallV_RX0_8, List.forall_mem_cons.mpr ⟨zcallV_RX0_9, List.forall_mem_cons.mpr ⟨zcallV_RX0_10, List.forall_mem_cons.mpr ⟨zcallV_RX0_11, List.forall_mem_cons.mpr ⟨zcallV_RX0_12, List.forall_mem_cons.mpr ⟨zcallV_RX0_13, List.forall_mem_cons.mpr ⟨zcallV_RX0_14, List.forall_mem_cons.mpr ⟨zcallV_RX0_15, List.forall_mem_cons.mpr ⟨zcallV_RX0_16, List.forall_mem_cons.mpr ⟨zcallV_RX0_17, List.forall_mem_cons.mpr ⟨zcallV_RX0_18, List.forall_mem_cons.mpr ⟨zcallV_RX0_19, fun _ h => absurd h List.not_mem_nil⟩⟩⟩⟩⟩⟩⟩⟩⟩⟩⟩⟩⟩⟩⟩⟩⟩⟩⟩⟩
def zgetf_RX1 : List (Nat × Nat × Nat) := [(0, 9, 39), (0, 10, 60), (0, 11, 57), (1, 0, 9), (6, 1, 45), (6, 3, 83)]
theorem zgetf_RX1_0 : zGetf RX1 (0, 9, 39) := fun hd hn => sn_getf (C := RX0) (T := TX0) (N := 13) (idx := 39) rfl pin0 (by decide) (by decide) rfl (pmt1 136 rfl (by decide +kernel)) rfl hd hn
theorem zgetf_RX1_1 : zGetf RX1 (0, 10, 60) := fun hd hn => sn_getf (C := RX0) (T := TX0) (N := 13) (idx := 60) rfl pin0 (by decide) (by decide) rfl (pmt1 141 rfl (by decide +kernel)) rfl hd hn
theorem zgetf_RX1_2 : zGetf RX1 (0, 11, 57) := fun hd hn => sn_getf (C := RX0) (T := TX0) (N := 13) (idx := 57) rfl pin0 (by decide) (by decide) rfl (pmt1 145 rfl (by decide +kernel)) rfl hd hn
theorem zgetf_RX1_3 : zGetf RX1 (1, 0, 9) := fun hd hn => sn_getf (C := RX1) (T := TX1) (N := 1) (idx := 9) rfl pin1 (by decide) (by decide) rfl (pmt1 80 rfl (by decide +kernel)) rfl hd hn
theorem zgetf_RX1_4 : zGetf RX1 (6, 1, 45) := fun hd hn => sn_getf (C := RX6) (T := TX6) (N := 4) (idx := 45) rfl pin6 (by decide) (by decide) rfl (pmt1 60 rfl (by decide +kernel)) rfl hd hn
theorem zgetf_RX1_5 : zGetf RX1 (6, 3, 83) := fun hd hn => sn_getf (C := RX6) (T := TX6) (N := 4) (idx := 83) rfl pin6 (by decide) (by decide) rfl (pmt1 64 rfl (by decide +kernel)) rfl hd hn
theorem zgetf_RX1_ok : ∀ q ∈ zgetf_RX1, zGetf RX1 q := List.forall_mem_cons.mpr ⟨zgetf_RX1_0, List.forall_mem_cons.mpr ⟨zgetf_RX1_1, List.forall_mem_cons.mpr ⟨zgetf_RX1_2, List.forall_mem_cons.mpr ⟨zgetf_RX1_3, List.forall_mem_cons.mpr ⟨zgetf_RX1_4, List.forall_mem_cons.mpr ⟨zgetf_RX1_5, fun _ h => absurd h List.not_mem_nil⟩⟩⟩⟩⟩⟩
def zputi_RX1 : List (Nat × Nat × Nat) := [(6, 1, 45)]
theorem zputi_RX1_0 : zPuti RX1 (6, 1, 45) := fun hd hn => sn_puti (C := RX6) (T := TX6) (N := 4) (idx := 45) rfl pin6 (by decide) (by decide) rfl tyX6 tyX6_ok nmX6 rfl rfl (by decide +kernel) (pmt1 60 rfl (by decide +kernel)) rfl hd hn
theorem zputi_RX1_ok : ∀ q ∈ zputi_RX1, zPuti RX1 q := List.forall_mem_cons.mpr ⟨zputi_RX1_0, fun _ h => absurd h List.not_mem_nil⟩
def zcallV_RX1 : List (Nat × Nat × Nat × Nat × Nat) := [(0, 0, 70, 1, 51), (0, 0, 71, 4, 90), (0, 0, 72, 1, 67), (0, 0, 73, 3, 86), (0, 1, 108, 1, 21), (0, 1, 109, 1, 54), (0, 1, 110, 1, 73), (0, 6, 132, 1, 15), (0, 6, 135, 1, 76), (0, 6, 137, 1, 29), (1, 1, 111, 1, 63), (1, 6, 133, 0, 36), (1, 6, 134, 0, 25), (1, 6, 136, 0, 32), (1, 6, 138, 0, 70), (1, 6, 139, 2, 79), (1, 6, 140, 2, 94), (1, 6, 142, 0, 48)]
theorem zcallV_RX1_0 : zCallV RX1 (0, 0, 70, 1, 51) := fun hd hn => sn_callV (idx := 51) (C := RX0) (T := TX0) (N := 13) rfl (by decide) cal_70 (pmt3 2 rfl (by decide +kernel)) (pmt3 3 rfl (by decide +kernel)) (pmt3 4 rfl (by decide +kernel)) hd hn
theorem zcallV_RX1_1 : zCallV RX1 (0, 0, 71, 4, 90) := fun hd hn => sn_callV (idx := 90) (C := RX0) (T := TX0) (N := 13) rfl (by decide) cal_71 (pmt3 49 rfl (by decide +kernel)) (pmt3 50 rfl (by decide +kernel)) (pmt3 51 rfl (by decide +kernel)) hd hn
theorem zcallV_RX1_2 : zCallV RX1 (0, 0, 72, 1, 67) := fun hd hn => sn_callV (idx := 67) (C := RX0) (T := TX0) (N := 13) rfl (by decide) cal_72 (pmt3 40 rfl (by decide +kernel)) (pmt3 41 rfl (by decide +kernel)) (pmt3 42 rfl (by decide +kernel)) hd hn
theorem zcallV_RX1_3 : zCallV RX1 (0, 0, 73, 3, 86) := fun hd hn => sn_callV (idx := 86) (C := RX0) (T := TX0) (N := 13) rfl (by decide) cal_73 (pmt3 16 rfl (by decide +kernel)) (pmt3 17 rfl (by decide +kernel)) (pmt3 18 rfl (by decide +kernel)) hd hn
theorem zcallV_RX1_4 : zCallV RX1 (0, 1, 108, 1, 21) := fun hd hn => sn_callV (idx := 21) (C := RX1) (T := TX1) (N := 1) rfl (by decide) cal_108 (pmt2 213 rfl (by decide +kernel)) (pmt2 215 rfl (by decide +kernel)) (pms 0 rfl rfl) hd hn
theorem zcallV_RX1_5 : zCallV RX1 (0, 1, 109, 1, 54) := fun hd hn => sn_callV (idx := 54) (C := RX1) (T := TX1) (N := 1) rfl (by decide) cal_109 (pmt3 6 rfl (by decide +kernel)) (pmt3 8 rfl (by decide +kernel)) (pms 2 rfl rfl) hd hn
theorem zcallV_RX1_6 : zCallV RX1 (0, 1, 110, 1, 73) := fun hd hn => sn_callV (idx := 73) (C := RX1) (T := TX1) (N := 1) rfl (by decide) cal_110 (pmt3 45 rfl (by decide +kernel)) (pmt3 47 rfl (by decide +kernel)) (pms 4 rfl rfl) hd hn
theorem zcallV_RX1_7 : zCallV RX1 (0, 6, 132, 1, 15) := fun hd hn => sn_callV (idx := 15) (C := RX6) (T := TX6) (N := 4) rfl (by decide) cal_132 (pmt2 206 rfl (by decide +kernel)) (pmt2 207 rfl (by decide +kernel)) (pmt2 208 rfl (by decide +kernel)) hd hn
theorem zcallV_RX1_8 : zCallV RX1 (0, 6, 135, 1, 76) := fun hd hn => sn_callV (idx := 76) (C := RX6) (T := TX6) (N := 4) rfl (by decide) cal_135 (pmt3 15 rfl (by decide +kernel)) (pmt2 235 rfl (by decide +kernel)) (pmt2 236 rfl (by decide +kernel)) hd hn
theorem zcallV_RX1_9 : zCallV RX1 (0, 6, 137, 1, 29) := fun hd hn => sn_callV (idx := 29) (C := RX6) (T := TX6) (N := 4) rfl (by decide) cal_137 (pmt3 11 rfl (by decide +kernel)) (pmt3 12 rfl (by decide +kernel)) (pmt3 13 rfl (by decide +kernel)) hd hn
theorem zcallV_RX1_10 : zCallV RX1 (1, 1, 111, 1, 63) := fun hd hn => sn_callV (idx := 63) (C := RX1) (T := TX1) (N := 1) rfl (by decide) cal_111 (pmt3 28 rfl (by decide +kernel)) (pmt3 30 rfl (by decide +kernel)) (pms 3 rfl rfl) hd hn
theorem zcallV_RX1_11 : zCallV RX1 (1, 6, 133, 0, 36) := fun hd hn => sn_callV (idx := 36) (C := RX6) (T := TX6) (N := 4) rfl (by decide) cal_133 (pmt2 217 rfl (by decide +kernel)) (pmt2 218 rfl (by decide +kernel)) (pmt2 219 rfl (by decide +kernel)) hd hn
theorem zcallV_RX1_12 : zCallV RX1 (1, 6, 134, 0, 25) := fun hd hn => sn_callV (idx := 25) (C := RX6) (T := TX6) (N := 4) rfl (by decide) cal_134 (pmt3 36 rfl (by decide +kernel)) (pmt3 37 rfl (by decide +kernel)) (pmt3 38 rfl (by decide +kernel)) hd hn
theorem zcallV_RX1_13 : zCallV RX1 (1, 6, 136, 0, 32) := fun hd hn => sn_callV (idx := 32) (C := RX6) (T := TX6) (N := 4) rfl (by decide) cal_136 (pmt3 53 rfl (by decide +kernel)) (pmt3 54 rfl (by decide +kernel)) (pmt3 55 rfl (by decide +kernel)) hd hn
theorem zcallV_RX1_14 : zCallV RX1 (1, 6, 138, 0, 70) := fun hd hn => sn_callV (idx := 70) (C := RX6) (T := TX6) (N := 4) rfl (by decide) cal_138 (pmt3 44 rfl (by decide +kernel)) (pmt2 239 rfl (by decide +kernel)) (pmt3 0 rfl (by decide +kernel)) hd hn
theorem zcallV_RX1_15 : zCallV RX1 (1, 6, 139, 2, 79) := fun hd hn => sn_callV (idx := 79) (C := RX6) (T := TX6) (N := 4) rfl (by decide) cal_139 (pmt3 10 rfl (by decide +kernel)) (pmt2 226 rfl (by decide +kernel)) (pmt2 227 rfl (by decide +kernel)) hd hn
theorem zcallV_RX1_16 : zCallV RX1 (1, 6, 140, 2, 94) := fun hd hn => sn_callV (idx := 94) (C := RX6) (T := TX6) (N := 4) rfl (by decide) cal_140 (pmt3 32 rfl (by decide +kernel)) (pmt3 33 rfl (by decide +kernel)) (pmt3 34 rfl (by decide +kernel)) hd hn
theorem zcallV_RX1_17 : zCallV RX1 (1, 6, 142, 0, 48) := fun hd hn => sn_callV (idx := 48) (C := RX6) (T := TX6) (N := 4) rfl (by decide) cal_142 (pmt2 221 rfl (by decide +kernel)) (pmt2 222 rfl (by decide +kernel)) (pmt2 223 rfl (by decide +kernel)) hd hn
theorem zcallV_RX1_ok : ∀ q ∈ zcallV_RX1, zCallV RX1 q := List.forall_mem_cons.mpr ⟨zcallV_RX1_0, List.forall_mem_cons.mpr ⟨zcallV_RX1_1, List.forall_mem_cons.mpr ⟨zcallV_RX1_2, List.forall_mem_cons.mpr ⟨zcallV_RX1_3, List.forall_mem_cons.mpr ⟨zcallV_RX1_4, List.forall_mem_cons.mpr ⟨zcallV_RX1_5, List.forall_mem_cons.mpr ⟨zcallV_RX1_6, List.forall_mem_cons.mpr ⟨zcallV_RX1_7, List.forall_mem_cons.mpr ⟨zcallV_RX1_8, List.forall_mem_cons.mpr ⟨zcallV_RX1_9, List.forall_mem_cons.mpr ⟨zcallV_RX1_10, List.forall_mem_cons.mpr ⟨zcallV_RX1_11, List.forall_mem_cons.mpr ⟨zcallV_RX1_12, List.forall_mem_cons.mpr ⟨zcallV_RX1_13, List.forall_mem_cons.mpr ⟨zcallV_RX1_14, List.forall_mem_cons.mpr ⟨zcallV_RX1_15, List.forall_mem_cons.mpr ⟨zcallV_RX1_16, List.forall_mem_cons.mpr ⟨zcallV_RX1_17, fun _ h => absurd h List.not_mem_nil⟩⟩⟩⟩⟩⟩⟩⟩⟩⟩⟩⟩⟩⟩⟩⟩⟩⟩
def zgetf_RX10 : List (Nat × Nat × Nat) := [(0, 0, 53), (0, 9, 30), (0, 12, 58), (10, 0, 9), (10, 1, 15), (10, 2, 18), (10, 3, 21), (10, 4, 24), (10, 5, 27), (10, 6, 42), (10, 7, 43), (10, 8, 46), (10, 9, 50), (10, 10, 88), (10, 11, 85)]
theorem zgetf_RX10_0 : zGetf RX10 (0, 0, 53) := fun hd hn => sn_getf (C := RX0) (T := TX0) (N := 13) (idx := 53) rfl pin0 (by decide) (by decide) rfl (pmt1 106 rfl (by decide +kernel)) rfl hd hn
theorem zgetf_RX10_1 : zGetf RX10 (0, 9, 30) := fun hd hn => sn_getf (C := RX0) (T := TX0) (N := 13) (idx := 30) rfl pin0 (by decide) (by decide) rfl (pmt1 133 rfl (by decide +kernel)) rfl hd hn
theorem zgetf_RX10_2 : zGetf RX10 (0, 12, 58) := fun hd hn => sn_getf (C := RX0) (T := TX0) (N := 13) (idx := 58) rfl pin0 (by decide) (by decide) rfl (pmt1 148 rfl (by decide +kernel)) rfl hd hn
theorem zgetf_RX10_3 : zGetf RX10 (10, 0, 9) := fun hd hn => sn_getf (C := RX10) (T := TX10) (N := 12) (idx := 9) rfl pin10 (by decide) (by decide) rfl (pmt1 205 rfl (by decide +kernel)) rfl hd hn
theorem zgetf_RX10_4 : zGetf RX10 (10, 1, 15) := fun hd hn => sn_getf (C := RX10) (T := TX10) (N := 12) (idx := 15) rfl pin10 (by decide) (by decide) rfl (pmt1 206 rfl (by decide +kernel)) rfl hd hn
theorem zgetf_RX10_5 : zGetf RX10 (10, 2, 18) := fun hd hn => sn_getf (C := RX10) (T := TX10) (N := 12) (idx := 18) rfl pin10 (by decide) (by decide) rfl (pmt1 207 rfl (by decide +kernel)) rfl hd hn
theorem zgetf_RX10_6 : zGetf RX10 (10, 3, 21) := fun hd hn => sn_getf (C := RX10) (T := TX10) (N := 12) (idx := 21) rfl pin10 (by decide) (by decide) rfl (pmt1 208 rfl (by decide +kernel)) rfl hd hn
theorem zgetf_RX10_7 : zGetf RX10 (10, 4, 24) := fun hd hn => sn_getf (C := RX10) (T := TX10) (N := 12) (idx := 24) rfl pin10 (by decide) (by decide) rfl (pmt1 211 rfl (by decide +kernel)) rfl hd hn
theorem zgetf_RX10_8 : zGetf RX10 (10, 5, 27) := fun hd hn => sn_getf (C := RX10) (T := TX10) (N := 12) (idx := 27) rfl pin10 (by decide) (by decide) rfl (pmt1 212 rfl (by decide +kernel)) rfl hd hn
theorem zgetf_RX10_9 : zGetf RX10 (10, 6, 42) := fun hd hn => sn_getf (C := RX10) (T := TX10) (N := 12) (idx := 42) rfl pin10 (by decide) (by decide) rfl (pmt1 214 rfl (by decide +kernel)) rfl hd hn
theorem zgetf_RX10_10 : zGetf RX10 (10, 7, 43) := fun hd hn => sn_getf (C := RX10) (T := TX10) (N := 12) (idx := 43) rfl pin10 (by decide) (by decide) rfl (pmt1 215 rfl (by decide +kernel)) rfl hd hn
theorem zgetf_RX10_11 : zGetf RX10 (10, 8, 46) := fun hd hn => sn_getf (C := RX10) (T := TX10) (N := 12) (idx := 46) rfl pin10 (by decide) (by decide) rfl (pmt1 216 rfl (by decide +kernel)) rfl hd hn
theorem zgetf_RX10_12 : zGetf RX10 (10, 9, 50) := fun hd hn => sn_getf (C := RX10) (T := TX10) (N := 12) (idx := 50) rfl pin10 (by decide) (by decide) rfl (pmt1 217 rfl (by decide +kernel)) rfl hd hn
theorem zgetf_RX10_13 : zGetf RX10 (10, 10, 88) := fun hd hn => sn_getf (C := RX10) (T := TX10) (N := 12) (idx := 88) rfl pin10 (by decide) (by decide) rfl (pmt1 218 rfl (by decide +kernel)) rfl hd hn
theorem zgetf_RX10_14 : zGetf RX10 (10, 11, 85) := fun hd hn => sn_getf (C := RX10) (T := TX10) (N := 12) (idx := 85) rfl pin10 (by decide) (by decide) rfl (pmt1 220 rfl (by decide +kernel)) rfl hd hn
theorem zgetf_RX10_ok : ∀ q ∈ zgetf_RX10, zGetf RX10 q := List.forall_mem_cons.mpr ⟨zgetf_RX10_0, List.forall_mem_cons.mpr ⟨zgetf_RX10_1, List.forall_mem_cons.mpr ⟨zgetf_RX10_2, List.forall_mem_cons.mpr ⟨zgetf_RX10_3, List.forall_mem_cons.mpr ⟨zgetf_RX10_4, List.forall_mem_cons.mpr ⟨zgetf_RX10_5, List.forall_mem_cons.mpr ⟨zgetf_RX10_6, List.forall_mem_cons.mpr ⟨zgetf_RX10_7, List.forall_mem_cons.mpr ⟨zgetf_RX10_8, List.forall_mem_cons.mpr ⟨zgetf_RX10_9, List.forall_mem_cons.mpr ⟨zgetf_RX10_10, List.forall_mem_cons.mpr ⟨zgetf_RX10_11, List.forall_mem_cons.mpr ⟨zgetf_RX10_12, List.forall_mem_cons.mpr ⟨zgetf_RX10_13, List.forall_mem_cons.mpr ⟨zgetf_RX10_14, fun _ h => absurd h List.not_mem_nil⟩⟩⟩⟩⟩⟩⟩⟩⟩⟩⟩⟩⟩⟩⟩
def zputi_RX10 : List (Nat × Nat × Nat) := [(10, 6, 42), (10, 7, 43), (10, 10, 88), (10, 11, 85)]
theorem zputi_RX10_0 : zPuti RX10 (10, 6, 42) := fun hd hn => sn_puti (C := RX10) (T := TX10) (N := 12) (idx := 42) rfl pin10 (by decide) (by decide) rfl tyX10 tyX10_ok nmX10 rfl rfl (by decide +kernel) (pmt1 214 rfl (by decide +kernel)) rfl hd hn
theorem zputi_RX10_1 : zPuti RX10 (10, 7, 43) := fun hd hn => sn_puti (C := RX10) (T := TX10) (N := 12) (idx := 43) rfl pin10 (by decide) (by decide) rfl tyX10 tyX10_ok nmX10 rfl rfl (by decide +kernel) (pmt1 215 rfl (by decide +kernel)) rfl hd hn
theorem zputi_RX10_2 : zPuti RX10 (10, 10, 88) := fun hd hn => sn_puti (C := RX10) (T := TX10) (N := 12) (idx := 88) rfl pin10 (by decide) (by decide) rfl tyX10 tyX10_ok nmX10 rfl rfl (by decide +kernel) (pmt1 218 rfl (by decide +kernel)) rfl hd hn
theorem zputi_RX10_3 : zPuti RX10 (10, 11, 85) := fun hd hn => sn_puti (C := RX10) (T := TX10) (N := 12) (idx := 85) rfl pin10 (by decide) (by decide) rfl tyX10 tyX10_ok nmX10 rfl rfl (by decide +kernel) (pmt1 220 rfl (by decide +kernel)) rfl hd hn
theorem zputi_RX10_ok : ∀ q ∈ zputi_RX10, zPuti RX10 q := List.forall_mem_cons.mpr ⟨zputi_RX10_0, List.forall_mem_cons.mpr ⟨zputi_RX10_1, List.forall_mem_cons.mpr ⟨zputi_RX10_2, List.forall_mem_cons.mpr ⟨zputi_RX10_3, fun _ h => absurd h List.not_mem_nil⟩⟩⟩⟩
def zcallV_RX10 : List (Nat × Nat × Nat × Nat × Nat) := [(1, 0, 101, 1, 65), (1, 10, 163, 0, 91), (1, 10, 164, 0, 69), (1, 10, 165, 1, 74), (1, 10, 166, 0, 94)]
theorem zcallV_RX10_0 : zCallV RX10 (1, 0, 101, 1, 65) := fun hd hn => sn_callV (idx := 65) (C := RX0) (T := TX0) (N := 13) rfl (by decide) cal_101 (pmt4 193 rfl (by decide +kernel)) (pmt4 141 rfl (by decide +kernel)) (pmt4 142 rfl (by decide +kernel)) hd hn
theorem zcallV_RX10_1 : zCallV RX10 (1, 10, 163, 0, 91) := fun hd hn => sn_callV (idx := 91) (C := RX10) (T := TX10) (N := 12) rfl (by decide) cal_163 (pmt4 199 rfl (by decide +kernel)) (pmt4 200 rfl (by decide +kernel)) (pmt4 201 rfl (by decide +kernel)) hd hn
theorem zcallV_RX10_2 : zCallV RX10 (1, 10, 164, 0, 69) := fun hd hn => sn_callV (idx := 69) (C := RX10) (T := TX10) (N := 12) rfl (by decide) cal_164 (pmt4 203 rfl (by decide +kernel)) (pmt4 205 rfl (by decide +kernel)) (pms 22 rfl rfl) hd hn
theorem zcallV_RX10_3 : zCallV RX10 (1, 10, 165, 1, 74) := fun hd hn => sn_callV (idx := 74) (C := RX10) (T := TX10) (N := 12) rfl (by decide) cal_165 (pmt4 207 rfl (by decide +kernel)) (pmt4 209 rfl (by decide +kernel)) (pms 23 rfl rfl) hd hn
theorem zcallV_RX10_4 : zCallV RX10 (1, 10, 166, 0, 94) := fun hd hn => sn_callV (idx := 94) (C := RX10) (T := TX10) (N := 12) rfl (by decide) cal_166 (pmt4 212 rfl (by decide +kernel)) (pmt4 214 rfl (by decide +kernel)) (pms 24 rfl rfl) hd hn
theorem zcallV_RX10_ok : ∀ q ∈ zcallV_RX10, zCallV RX10 q := List.forall_mem_cons.mpr ⟨zcallV_RX10_0, List.forall_mem_cons.mpr ⟨zcallV_RX10_1, List.forall_mem_cons.mpr ⟨zcallV_RX10_2, List.forall_mem_cons.mpr ⟨zcallV_RX10_3, List.forall_mem_cons.mpr ⟨zcallV_RX10_4, fun _ h => absurd h List.not_mem_nil⟩⟩⟩⟩⟩
def zgetf_RX11 : List (Nat × Nat × Nat) := [(0, 0, 147), (0, 2, 169), (0, 3, 172), (0, 4, 175), (0, 5, 150), (0, 6, 192), (0, 7, 273), (0, 8, 182), (0, 9, 319), (0, 10, 276), (0, 11, 189), (0, 12, 270), (2, 8, 407), (2, 9, 410), (3, 0, 433), (3, 4, 434), (3, 5, 435), (4, 0, 442), (4, 1, 439), (5, 0, 254), (5, 1, 261), (5, 2, 264), (5, 3, 251), (7, 0, 132), (8, 1, 108), (9, 1, 398), (9, 3, 397), (10, 3, 354), (10, 5, 468), (10, 10, 325), (10, 11, 313), (11, 0, 10), (11, 1, 21), (11, 2, 30), (11, 3, 37), (11, 4, 44), (11, 5, 48), (11, 6, 54), (11, 7, 61), (11, 8, 68), (11, 9, 75), (11, 10, 82), (11, 11, 89), (11, 12, 93), (11, 13, 97), (11, 14, 387), (11, 15, 422), (11, 16, 210), (11, 17, 100)]
theorem zgetf_RX11_0 : zGetf RX11 (0, 0, 147) := fun hd hn => sn_getf (C := RX0) (T := TX0) (N := 13) (idx := 147) rfl pin0 (by decide) (by decide) rfl (pmt1 108 rfl (by decide +kernel)) rfl hd hn
theorem zgetf_RX11_1 : zGetf RX11 (0, 2, 169) := fun hd hn => sn_getf (C := RX0) (T := TX0) (N := 13) (idx := 169) rfl pin0 (by decide) (by decide) rfl (pmt1 112 rfl (by decide +kernel)) rfl hd hn
theorem zgetf_RX11_2 : zGetf RX11 (0, 3, 172) := fun hd hn => sn_getf (C := RX0) (T := TX0) (N := 13) (idx := 172) rfl pin0 (by decide) (by decide) rfl (pmt1 115 rfl (by decide +kernel)) rfl hd hn
theorem zgetf_RX11_3 : zGetf RX11 (0, 4, 175) := fun hd hn => sn_getf (C := RX0) (T := TX0) (N := 13) (idx := 175) rfl pin0 (by decide) (by decide) rfl (pmt1 118 rfl (by decide +kernel)) rfl hd hn
theorem zgetf_RX11_4 : zGetf RX11 (0, 5, 150) := fun hd hn => sn_getf (C := RX0) (T := TX0) (N := 13) (idx := 150) rfl pin0 (by decide) (by decide) rfl (pmt1 123 rfl (by decide +kernel)) rfl hd hn
theorem zgetf_RX11_5 : zGetf RX11 (0, 6, 192) := fun hd hn => sn_getf (C := RX0) (T := TX0) (N := 13) (idx := 192) rfl pin0 (by decide) (by decide) rfl (pmt1 126 rfl (by decide +kernel)) rfl hd hn
theorem zgetf_RX11_6 : zGetf RX11 (0, 7, 273) := fun hd hn => sn_getf (C := RX0) (T := TX0) (N := 13) (idx := 273) rfl pin0 (by decide) (by decide) rfl (pmt1 128 rfl (by decide +kernel)) rfl hd hn
theorem zgetf_RX11_7 : zGetf RX11 (0, 8, 182) := fun hd hn => sn_getf (C := RX0) (T := TX0) (N := 13) (idx := 182) rfl pin0 (by decide) (by decide) rfl (pmt1 132 rfl (by decide +kernel)) rfl hd hn
theorem zgetf_RX11_8 : zGetf RX11 (0, 9, 319) := fun hd hn => sn_getf (C := RX0) (T := TX0) (N := 13) (idx := 319) rfl pin0 (by decide) (by decide) rfl (pmt1 137 rfl (by decide +kernel)) rfl hd hn
theorem zgetf_RX11_9 : zGetf RX11 (0, 10, 276) := fun hd hn => sn_getf (C := RX0) (T := TX0) (N := 13) (idx := 276) rfl pin0 (by decide) (by decide) rfl (pmt1 143 rfl (by decide +kernel)) rfl hd hn
theorem zgetf_RX11_10 : zGetf RX11 (0, 11, 189) := fun hd hn => sn_getf (C := RX0) (T := TX0) (N := 13) (idx := 189) rfl pin0 (by decide) (by decide) rfl (pmt1 146 rfl (by decide +kernel)) rfl hd hn
theorem zgetf_RX11_11 : zGetf RX11 (0, 12, 270) := fun hd hn => sn_getf (C := RX0) (T := TX0) (N := 13) (idx := 270) rfl pin0 (by decide) (by decide) rfl (pmt1 150 rfl (by decide +kernel)) rfl hd hn
theorem zgetf_RX11_12 : zGetf RX11 (2, 8, 407) := fun hd hn => sn_getf (C := RX2) (T := TX2) (N := 10) (idx := 407) rfl pin2 (by decide) (by decide) rfl (pmt2 96 rfl (by decide +kernel)) rfl hd hn
theorem zgetf_RX11_13 : zGetf RX11 (2, 9, 410) := fun hd hn => sn_getf (C := RX2) (T := TX2) (N := 10) (idx := 410) rfl pin2 (by decide) (by decide) rfl (pmt2 98 rfl (by decide +kernel)) rfl hd hn
theorem zgetf_RX11_14 : zGetf RX11 (3, 0, 433) := fun hd hn => sn_getf (C := RX3) (T := TX3) (N := 6) (idx := 433) rfl pin3 (by decide) (by decide) rfl (pmt2 38 rfl (by decide +kernel)) rfl hd hn
theorem zgetf_RX11_15 : zGetf RX11 (3, 4, 434) := fun hd hn => sn_getf (C := RX3) (T := TX3) (N := 6) (idx := 434) rfl pin3 (by decide) (by decide) rfl (pmt2 43 rfl (by decide +kernel)) rfl hd hn
theorem zgetf_RX11_16 : zGetf RX11 (3, 5, 435) := fun hd hn => sn_getf (C := RX3) (T := TX3) (N := 6) (idx := 435) rfl pin3 (by decide) (by decide) rfl (pmt2 45 rfl (by decide +kernel)) rfl hd hn
theorem zgetf_RX11_17 : zGetf RX11 (4, 0, 442) := fun hd hn => sn_getf (C := RX4) (T := TX4) (N := 2) (idx := 442) rfl pin4 (by decide) (by decide) rfl (pmt1 91 rfl (by decide +kernel)) rfl hd hn
theorem zgetf_RX11_18 : zGetf RX11 (4, 1, 439) := fun hd hn => sn_getf (C := RX4) (T := TX4) (N := 2) (idx := 439) rfl pin4 (by decide) (by decide) rfl (pmt1 93 rfl (by decide +kernel)) rfl hd hn
theorem zgetf_RX11_19 : zGetf RX11 (5, 0, 254) := fun hd hn => sn_getf (C := RX5) (T := TX5) (N := 4) (idx := 254) rfl pin5 (by decide) (by decide) rfl (pmt2 14 rfl (by decide +kernel)) rfl hd hn
theorem zgetf_RX11_20 : zGetf RX11 (5, 1, 261) := fun hd hn => sn_getf (C := RX5) (T := TX5) (N := 4) (idx := 261) rfl pin5 (by decide) (by decide) rfl (pmt2 16 rfl (by decide +kernel)) rfl hd hn
theorem zgetf_RX11_21 : zGetf RX11 (5, 2, 264) := fun hd hn => sn_getf (C := RX5) (T := TX5) (N := 4) (idx := 264) rfl pin5 (by decide) (by decide) rfl (pmt2 18 rfl (by decide +kernel)) rfl hd hn
theorem zgetf_RX11_22 : zGetf RX11 (5, 3, 251) := fun hd hn => sn_getf (C := RX5) (T := TX5) (N := 4) (idx := 251) rfl pin5 (by decide) (by decide) rfl (pmt2 20 rfl (by decide +kernel)) rfl hd hn
theorem zgetf_RX11_23 : zGetf RX11 (7, 0, 132) := fun hd hn => sn_getf (C := RX7) (T := TX7) (N := 3) (idx := 132) rfl pin7 (by decide) (by decide) rfl (pmt1 189 rfl (by decide +kernel)) rfl hd hn
theorem zgetf_RX11_24 : zGetf RX11 (8, 1, 108) := fun hd hn => sn_getf (C := RX8) (T := TX8) (N := 2) (idx := 108) rfl pin8 (by decide) (by decide) rfl (pmt1 43 rfl (by decide +kernel)) rfl hd hn
theorem zgetf_RX11_25 : zGetf RX11 (9, 1, 398) := fun hd hn => sn_getf (C := RX9) (T := TX9) (N := 4) (idx := 398) rfl pin9 (by decide) (by decide) rfl (pmt2 67 rfl (by decide +kernel)) rfl hd hn
theorem zgetf_RX11_26 : zGetf RX11 (9, 3, 397) := fun hd hn => sn_getf (C := RX9) (T := TX9) (N := 4) (idx := 397) rfl pin9 (by decide) (by decide) rfl (pmt2 70 rfl (by decide +kernel)) rfl hd hn
theorem zgetf_RX11_27 : zGetf RX11 (10, 3, 354) := fun hd hn => sn_getf (C := RX10) (T := TX10) (N := 12) (idx := 354) rfl pin10 (by decide) (by decide) rfl (pmt1 210 rfl (by decide +kernel)) rfl hd hn
theorem zgetf_RX11_28 : zGetf RX11 (10, 5, 468) := fun hd hn => sn_getf (C := RX10) (T := TX10) (N := 12) (idx := 468) rfl pin10 (by decide) (by decide) rfl (pmt1 213 rfl (by decide +kernel)) rfl hd hn
theorem zgetf_RX11_29 : zGetf RX11 (10, 10, 325) := fun hd hn => sn_getf (C := RX10) (T := TX10) (N := 12) (idx := 325) rfl pin10 (by decide) (by decide) rfl (pmt1 219 rfl (by decide +kernel)) rfl hd hn
theorem zgetf_RX11_30 : zGetf RX11 (10, 11, 313) := fun hd hn => sn_getf (C := RX10) (T := TX10) (N := 12) (idx := 313) rfl pin10 (by decide) (by decide) rfl (pmt1 221 rfl (by decide +kernel)) rfl hd hn
theorem zgetf_RX11_31 : zGetf RX11 (11, 0, 10) := fun hd hn => sn_getf (C := RX11) (T := TX11) (N := 18) (idx := 10) rfl pin11 (by decide) (by decide) rfl (pmt2 120 rfl (by decide +kernel)) rfl hd hn
theorem zgetf_RX11_32 : zGetf RX11 (11, 1, 21) := fun hd hn => sn_getf (C := RX11) (T := TX11) (N := 18) (idx := 21) rfl pin11 (by decide) (by decide) rfl (pmt2 121 rfl (by decide +kernel)) rfl hd hn
theorem zgetf_RX11_33 : zGetf RX11 (11, 2, 30) := fun hd hn => sn_getf (C := RX11) (T := TX11) (N := 18) (idx := 30) rfl pin11 (by decide) (by decide) rfl (pmt2 122 rfl (by decide +kernel)) rfl hd hn
theorem zgetf_RX11_34 : zGetf RX11 (11, 3, 37) := fun hd hn => sn_getf (C := RX11) (T := TX11) (N := 18) (idx := 37) rfl pin11 (by decide) (by decide) rfl (pmt2 123 rfl (by decide +kernel)) rfl hd hn
theorem zgetf_RX11_35 : zGetf RX11 (11, 4, 44) := fun hd hn => sn_getf (C := RX11) (T := TX11) (N := 18) (idx := 44) rfl pin11 (by decide) (by decide) rfl (pmt2 124 rfl (by decide +kernel)) rfl hd hn
theorem zgetf_RX11_36 : zGetf RX11 (11, 5, 48) := fun hd hn => sn_getf (C := RX11) (T := TX11) (N := 18) (idx := 48) rfl pin11 (by decide) (by decide) rfl (pmt2 125 rfl (by decide +kernel)) rfl hd hn
theorem zgetf_RX11_37 : zGetf RX11 (11, 6, 54) := fun hd hn => sn_getf (C := RX11) (T := TX11) (N := 18) (idx := 54) rfl pin11 (by decide) (by decide) rfl (pmt2 126 rfl (by decide +kernel)) rfl hd hn
theorem zgetf_RX11_38 : zGetf RX11 (11, 7, 61) := fun hd hn => sn_getf (C := RX11) (T := TX11) (N := 18) (idx := 61) rfl pin11 (by decide) (by decide) rfl (pmt2 127 rfl (by decide +kernel)) rfl hd hn
theorem zgetf_RX11_39 : zGetf RX11 (11, 8, 68) := fun hd hn => sn_getf (C := RX11) (T := TX11) (N := 18) (idx := 68) rfl pin11 (by decide) (by decide) rfl (pmt2 128 rfl (by decide +kernel)) rfl hd hn
theorem zgetf_RX11_40 : zGetf RX11 (11, 9, 75) := fun hd hn => sn_getf (C := RX11) (T := TX11) (N := 18) (idx := 75) rfl pin11 (by decide) (by decide) rfl (pmt2 129 rfl (by decide +kernel)) rfl hd hn
theorem zgetf_RX11_41 : zGetf RX11 (11, 10, 82) := fun hd hn => sn_getf (C := RX11) (T := TX11) (N := 18) (idx := 82) rfl pin11 (by decide) (by decide) rfl (pmt2 130 rfl (by decide +kernel)) rfl hd hn
theorem zgetf_RX11_42 : zGetf RX11 (11, 11, 89) := fun hd hn => sn_getf (C := RX11) (T := TX11) (N := 18) (idx := 89) rfl pin11 (by decide) (by decide) rfl (pmt2 131 rfl (by decide +kernel)) rfl hd hn
theorem zgetf_RX11_43 : zGetf RX11 (11, 12, 93) := fun hd hn => sn_getf (C := RX11) (T := TX11) (N := 18) (idx := 93) rfl pin11 (by decide) (by decide) rfl (pmt2 132 rfl (by decide +kernel)) rfl hd hn
theorem zgetf_RX11_44 : zGetf RX11 (11, 13, 97) := fun hd hn => sn_getf (C := RX11) (T := TX11) (N := 18) (idx := 97) rfl pin11 (by decide) (by decide) rfl (pmt2 133 rfl (by decide +kernel)) rfl hd hn
theorem zgetf_RX11_45 : zGetf RX11 (11, 14, 387) := fun hd hn => sn_getf (C := RX11) (T := TX11) (N := 18) (idx := 387) rfl pin11 (by decide) (by decide) rfl (pmt2 134 rfl (by decide +kernel)) rfl hd hn
theorem zgetf_RX11_46 : zGetf RX11 (11, 15, 422) := fun hd hn => sn_getf (C := RX11) (T := TX11) (N := 18) (idx := 422) rfl pin11 (by decide) (by decide) rfl (pmt2 135 rfl (by decide +kernel)) rfl hd hn
theorem zgetf_RX11_47 : zGetf RX11 (11, 16, 210) := fun hd hn => sn_getf (C := RX11) (T := TX11) (N := 18) (idx := 210) rfl pin11 (by decide) (by decide) rfl (pmt2 136 rfl (by decide +kernel)) rfl hd hn
theorem zgetf_RX11_48 : zGetf RX11 (11, 17, 100) := fun hd hn => sn_getf (C := RX11) (T := TX11) (N := 18) (idx := 100) rfl pin11 (by decide) (by decide) rfl (pmt2 137 rfl (by decide +kernel)) rfl hd hn
theorem zgetf_RX11_ok : ∀ q ∈ zgetf_RX11, zGetf RX11 q := List.forall_mem_cons.mpr ⟨zgetf_RX11_0, List.forall_mem_cons.mpr ⟨zgetf_RX11_1, List.forall_mem_cons.mpr ⟨zgetf_RX11_2, List.forall_mem_cons.mpr ⟨zgetf_RX11_3, List.forall_mem_cons.mpr ⟨zgetf_RX11_4, List.forall_mem_cons.mpr ⟨zgetf_RX11_5, List.forall_mem_cons.mpr ⟨zgetf_RX11_6, List.forall_mem_cons.mpr ⟨zgetf_RX11_7, List.forall_mem_cons.mpr ⟨zgetf_RX11_8, List.forall_mem_cons.mpr ⟨zgetf_RX11_9, List.forall_mem_cons.mpr ⟨zgetf_RX11_10, List.forall_mem_cons.mpr ⟨zgetf_RX11_11, List.forall_mem_cons.mpr ⟨zgetf_RX11_12, List.forall_mem_cons.mpr ⟨zgetf_RX11_13, List.forall_mem_cons.mpr ⟨zgetf_RX11_14, List.forall_mem_cons.mpr ⟨zgetf_RX11_15, List.forall_mem_cons.mpr ⟨zgetf_RX11_16, List.forall_mem_cons.mpr ⟨zgetf_RX11_17, List.forall_mem_cons.mpr ⟨zgetf_RX11_18, List.forall_mem_cons.mpr ⟨zgetf_RX11_19, List.forall_mem_cons.mpr ⟨zgetf_RX11_20, List.forall_mem_cons.mpr ⟨zgetf_RX11_21, List.forall_mem_cons.mpr ⟨zgetf_RX11_22, List.forall_mem_cons.mpr ⟨zgetf_RX11_23, List.forall_mem_cons.mpr ⟨zgetf_RX11_24, List.forall_mem_cons.mpr ⟨zgetf_RX11_25, List.forall_mem_cons.mpr ⟨zgetf_RX11_26, List.forall_mem_cons.mpr ⟨zgetf_RX11_27, List.forall_mem_cons.mpr ⟨zgetf_RX11_28, List.forall_mem_cons.mpr ⟨zgetf_RX11_29, List.forall_mem_cons.mpr ⟨zgetf_RX11_30, List.forall_mem_cons.mpr ⟨zgetf_RX11_31, List.forall_mem_cons.mpr ⟨zgetf_RX11_32, List.forall_mem_cons.mpr ⟨zgetf_RX11_33, List.forall_mem_cons.mpr ⟨zgetf_RX11_34, List.forall_mem_cons.mpr ⟨zgetf_RX11_35, List.forall_mem_cons.mpr ⟨zgetf_RX11_36, List.forall_mem_cons.mpr ⟨zgetf_RX11_37, List.forall_mem_cons.mpr ⟨zgetf_RX11_38, List.forall_mem_cons.mpr ⟨zgetf_RX11_39, List.forall_mem_cons.mpr ⟨zgetf_RX11_40, List.forall_mem_cons.mpr ⟨zgetf_RX11_41, List.forall_mem_cons.mpr ⟨zgetf_RX11_42, List.forall_mem_cons.mpr ⟨zgetf_RX11_43, List.forall_mem_cons.mpr ⟨zgetf_RX11_44, List.forall_mem_cons.mpr ⟨zgetf_RX11_45, List.forall_mem_cons.mpr ⟨zgetf_RX11_46, List.forall_mem_cons.mpr ⟨zgetf_RX11_47, List.forall_mem_cons.mpr ⟨zgetf_RX11_48, fun _ h => absurd h List.not_mem_nil⟩⟩⟩⟩⟩⟩⟩⟩⟩⟩⟩⟩⟩⟩⟩⟩⟩⟩⟩⟩⟩⟩⟩⟩⟩⟩⟩⟩⟩⟩⟩⟩⟩⟩⟩⟩⟩⟩⟩⟩⟩⟩⟩⟩⟩⟩⟩⟩⟩
def zputi_RX11 : List (Nat × Nat × Nat) := [(5, 3, 251), (11, 14, 387), (11, 15, 422), (11, 16, 210), (11, 17, 100)]
theorem zputi_RX11_0 : zPuti RX11 (5, 3, 251) := fun hd hn => sn_puti (C := RX5) (T := TX5) (N := 4) (idx := 251) rfl pin5 (by decide) (by decide) rfl tyX5 tyX5_ok nmX5 rfl rfl (by decide +kernel) (pmt2 20 rfl (by decide +kernel)) rfl hd hn
theorem zputi_RX11_1 : zPuti RX11 (11, 14, 387) := fun hd hn => sn_puti (C := RX11) (T := TX11) (N := 18) (idx := 387) rfl pin11 (by decide) (by decide) rfl tyX11 tyX11_ok nmX11 rfl rfl (by decide +kernel) (pmt2 134 rfl (by decide +kernel)) rfl hd hn
theorem zputi_RX11_2 : zPuti RX11 (11, 15, 422) := fun hd hn => sn_puti (C := RX11) (T := TX11) (N := 18) (idx := 422) rfl pin11 (by decide) (by decide) rfl tyX11 tyX11_ok nmX11 rfl rfl (by decide +kernel) (pmt2 135 rfl (by decide +kernel)) rfl hd hn
theorem zputi_RX11_3 : zPuti RX11 (11, 16, 210) := fun hd hn => sn_puti (C := RX11) (T := TX11) (N := 18) (idx := 210) rfl pin11 (by decide) (by decide) rfl tyX11 tyX11_ok nmX11 rfl rfl (by decide +kernel) (pmt2 136 rfl (by decide +kernel)) rfl hd hn
theorem zputi_RX11_4 : zPuti RX11 (11, 17, 100) := fun hd hn => sn_puti (C := RX11) (T := TX11) (N := 18) (idx := 100) rfl pin11 (by decide) (by decide) rfl tyX11 tyX11_ok nmX11 rfl rfl (by decide +kernel) (pmt2 137 rfl (by decide +kernel)) rfl hd hn
theorem zputi_RX11_ok : ∀ q ∈ zputi_RX11, zPuti RX11 q := List.forall_mem_cons.mpr ⟨zputi_RX11_0, List.forall_mem_cons.mpr ⟨zputi_RX11_1, List.forall_mem_cons.mpr ⟨zputi_RX11_2, List.forall_mem_cons.mpr ⟨zputi_RX11_3, List.forall_mem_cons.mpr ⟨zputi_RX11_4, fun _ h => absurd h List.not_mem_nil⟩⟩⟩⟩⟩
def zcallV_RX11 : List (Nat × Nat × Nat × Nat × Nat) := [(0, 0, 62, 1, 114), (0, 0, 73, 3, 202), (0, 0, 95, 1, 297), (0, 0, 98, 0, 122), (0, 3, 125, 3, 425), (0, 4, 127, 0, 227), (0, 4, 128, 1, 230), (0, 5, 129, 0, 125), (0, 5, 130, 3, 448), (0, 6, 132, 1, 449), (0, 6, 137, 1, 457), (0, 8, 155, 1, 135), (0, 10, 160, 2, 307), (0, 10, 161, 2, 343), (0, 10, 162, 3, 322), (0, 11, 52, 3, 217), (0, 11, 55, 0, 451), (0, 11, 58, 0, 316), (1, 0, 63, 1, 137), (1, 0, 64, 1, 164), (1, 0, 65, 2, 195), (1, 0, 66, 0, 378), (1, 0, 67, 0, 285), (1, 0, 68, 0, 291), (1, 0, 69, 0, 304), (1, 0, 74, 2, 199), (1, 0, 75, 0, 436), (1, 0, 76, 4, 206), (1, 0, 77, 2, 160), (1, 0, 79, 2, 375), (1, 0, 80, 3, 368), (1, 0, 81, 4, 372), (1, 0, 82, 3, 445), (1, 0, 83, 1, 357), (1, 0, 84, 3, 381), (1, 0, 85, 1, 472), (1, 0, 86, 2, 153), (1, 0, 87, 2, 157), (1, 0, 88, 1, 224), (1, 0, 89, 1, 220), (1, 0, 91, 1, 247), (1, 0, 92, 0, 300), (1, 0, 93, 1, 178), (1, 0, 94, 1, 288), (1, 0, 97, 2, 294), (1, 0, 100, 1, 350), (1, 0, 101, 1, 279), (1, 0, 102, 1, 340), (1, 0, 103, 1, 282), (1, 0, 104, 1, 337), (1, 0, 105, 1, 334), (1, 0, 106, 2, 360), (1, 1, 107, 1, 118), (1, 2, 112, 2, 475), (1, 2, 113, 2, 479), (1, 2, 114, 2, 412), (1, 2, 119, 1, 404), (1, 2, 123, 0, 415), (1, 3, 126, 1, 429), (1, 6, 134, 0, 454), (1, 6, 136, 0, 460), (1, 6, 139, 2, 465), (1, 6, 140, 2, 462), (1, 7, 143, 1, 128), (1, 7, 144, 3, 185), (1, 8, 152, 1, 104), (1, 8, 153, 1, 111), (1, 8, 154, 1, 241), (1, 9, 156, 2, 393), (1, 10, 163, 0, 347), (1, 10, 167, 0, 310), (1, 11, 11, 2, 244), (1, 11, 51, 4, 213), (1, 11, 53, 0, 234), (1, 11, 54, 0, 238), (1, 11, 56, 0, 384), (1, 11, 57, 0, 390), (1, 11, 59, 2, 327), (1, 11, 60, 3, 330), (1, 11, 61, 0, 401), (2, 11, 50, 1, 418)]
theorem zcallV_RX11_0 : zCallV RX11 (0, 0, 62, 1, 114) := fun hd hn => sn_callV (idx := 114) (C := RX0) (T := TX0) (N := 13) rfl (by decide) cal_62 (pmt2 195 rfl (by decide +kernel)) (pmt2 196 rfl (by decide +kernel)) (pmt2 197 rfl (by decide +kernel)) hd hn
theorem zcallV_RX11_1 : zCallV RX11 (0, 0, 73, 3, 202) := fun hd hn => sn_callV (idx := 202) (C := RX0) (T := TX0) (N := 13) rfl (by decide) cal_73 (pmt3 236 rfl (by decide +kernel)) (pmt3 17 rfl (by decide +kernel)) (pmt3 18 rfl (by decide +kernel)) hd hn
theorem zcallV_RX11_2 : zCallV RX11 (0, 0, 95, 1, 297) := fun hd hn => sn_callV (idx := 297) (C := RX0) (T := TX0) (N := 13) rfl (by decide) cal_95 (pmt4 166 rfl (by decide +kernel)) (pmt4 167 rfl (by decide +kernel)) (pmt4 168 rfl (by decide +kernel)) hd hn
theorem zcallV_RX11_3 : zCallV RX11 (0, 0, 98, 0, 122) := fun hd hn => sn_callV (idx := 122) (C := RX0) (T := TX0) (N := 13) rfl (by decide) cal_98 (pmt3 57 rfl (by decide +kernel)) (pmt3 58 rfl (by decide +kernel)) (pmt3 59 rfl (by decide +kernel)) hd hn
theorem zcallV_RX11_4 : zCallV RX11 (0, 3, 125, 3, 425) := fun hd hn => sn_callV (idx := 425) (C := RX3) (T := TX3) (N := 6) rfl (by decide) cal_125 (pmt6 18 rfl (by decide +kernel)) (pmt6 19 rfl (by decide +kernel)) (pmt6 20 rfl (by decide +kernel)) hd hn
theorem zcallV_RX11_5 : zCallV RX11 (0, 4, 127, 0, 227) := fun hd hn => sn_callV (idx := 227) (C := RX4) (T := TX4) (N := 2) rfl (by decide) cal_127 (pmt4 81 rfl (by decide +kernel)) (pmt4 82 rfl (by decide +kernel)) (pmt4 83 rfl (by decide +kernel)) hd hn
theorem zcallV_RX11_6 : zCallV RX11 (0, 4, 128, 1, 230) := fun hd hn => sn_callV (idx := 230) (C := RX4) (T := TX4) (N := 2) rfl (by decide) cal_128 (pmt4 85 rfl (by decide +kernel)) (pmt4 86 rfl (by decide +kernel)) (pmt4 87 rfl (by decide +kernel)) hd hn
theorem zcallV_RX11_7 : zCallV RX11 (0, 5, 129, 0, 125) := fun hd hn => sn_callV (idx := 125) (C := RX5) (T := TX5) (N := 4) rfl (by decide) cal_129 (pmt3 80 rfl (by decide +kernel)) (pmt3 81 rfl (by decide +kernel)) (pmt3 82 rfl (by decide +kernel)) hd hn
theorem zcallV_RX11_8 : zCallV RX11 (0, 5, 130, 3, 448) := fun hd hn => sn_callV (idx := 448) (C := RX5) (T := TX5) (N := 4) rfl (by decide) cal_130 (pmt4 44 rfl (by decide +kernel)) (pmt4 45 rfl (by decide +kernel)) (pmt4 46 rfl (by decide +kernel)) hd hn
theorem zcallV_RX11_9 : zCallV RX11 (0, 6, 132, 1, 449) := fun hd hn => sn_callV (idx := 449) (C := RX6) (T := TX6) (N := 4) rfl (by decide) cal_132 (pmt4 101 rfl (by decide +kernel)) (pmt2 207 rfl (by decide +kernel)) (pmt2 208 rfl (by decide +kernel)) hd hn
theorem zcallV_RX11_10 : zCallV RX11 (0, 6, 137, 1, 457) := fun hd hn => sn_callV (idx := 457) (C := RX6) (T := TX6) (N := 4) rfl (by decide) cal_137 (pmt4 107 rfl (by decide +kernel)) (pmt3 12 rfl (by decide +kernel)) (pmt3 13 rfl (by decide +kernel)) hd hn
theorem zcallV_RX11_11 : zCallV RX11 (0, 8, 155, 1, 135) := fun hd hn => sn_callV (idx := 135) (C := RX8) (T := TX8) (N := 2) rfl (by decide) cal_155 (pmt3 213 rfl (by decide +kernel)) (pmt3 214 rfl (by decide +kernel)) (pmt3 215 rfl (by decide +kernel)) hd hn
theorem zcallV_RX11_12 : zCallV RX11 (0, 10, 160, 2, 307) := fun hd hn => sn_callV (idx := 307) (C := RX10) (T := TX10) (N := 12) rfl (by decide) cal_160 (pmt4 186 rfl (by decide +kernel)) (pmt4 187 rfl (by decide +kernel)) (pmt4 188 rfl (by decide +kernel)) hd hn
theorem zcallV_RX11_13 : zCallV RX11 (0, 10, 161, 2, 343) := fun hd hn => sn_callV (idx := 343) (C := RX10) (T := TX10) (N := 12) rfl (by decide) cal_161 (pmt5 24 rfl (by decide +kernel)) (pmt5 25 rfl (by decide +kernel)) (pmt5 26 rfl (by decide +kernel)) hd hn
theorem zcallV_RX11_14 : zCallV RX11 (0, 10, 162, 3, 322) := fun hd hn => sn_callV (idx := 322) (C := RX10) (T := TX10) (N := 12) rfl (by decide) cal_162 (pmt5 12 rfl (by decide +kernel)) (pmt5 13 rfl (by decide +kernel)) (pmt5 14 rfl (by decide +kernel)) hd hn
theorem zcallV_RX11_15 : zCallV RX11 (0, 11, 52, 3, 217) := fun hd hn => sn_callV (idx := 217) (C := RX11) (T := TX11) (N := 18) rfl (by decide) cal_52 (pmt4 40 rfl (by decide +kernel)) (pmt4 42 rfl (by decide +kernel)) (pms 16 rfl rfl) hd hn
theorem zcallV_RX11_16 : zCallV RX11 (0, 11, 55, 0, 451) := fun hd hn => sn_callV (idx := 451) (C := RX11) (T := TX11) (N := 18) rfl (by decide) cal_55 (pmt4 102 rfl (by decide +kernel)) (pmt4 104 rfl (by decide +kernel)) (pms 21 rfl rfl) hd hn
theorem zcallV_RX11_17 : zCallV RX11 (0, 11, 58, 0, 316) := fun hd hn => sn_callV (idx := 316) (C := RX11) (T := TX11) (N := 18) rfl (by decide) cal_58 (pmt4 217 rfl (by decide +kernel)) (pmt4 219 rfl (by decide +kernel)) (pms 25 rfl rfl) hd hn
theorem zcallV_RX11_18 : zCallV RX11 (1, 0, 63, 1, 137) := fun hd hn => sn_callV (idx := 137) (C := RX0) (T := TX0) (N := 13) rfl (by decide) cal_63 (pmt4 23 rfl (by decide +kernel)) (pmt3 25 rfl (by decide +kernel)) (pmt3 26 rfl (by decide +kernel)) hd hn
theorem zcallV_RX11_19 : zCallV RX11 (1, 0, 64, 1, 164) := fun hd hn => sn_callV (idx := 164) (C := RX0) (T := TX0) (N := 13) rfl (by decide) cal_64 (pmt4 19 rfl (by decide +kernel)) (pmt4 20 rfl (by decide +kernel)) (pmt4 21 rfl (by decide +kernel)) hd hn
theorem zcallV_RX11_20 : zCallV RX11 (1, 0, 65, 2, 195) := fun hd hn => sn_callV (idx := 195) (C := RX0) (T := TX0) (N := 13) rfl (by decide) cal_65 (pmt3 227 rfl (by decide +kernel)) (pmt3 21 rfl (by decide +kernel)) (pmt3 22 rfl (by decide +kernel)) hd hn
theorem zcallV_RX11_21 : zCallV RX11 (1, 0, 66, 0, 378) := fun hd hn => sn_callV (idx := 378) (C := RX0) (T := TX0) (N := 13) rfl (by decide) cal_66 (pmt5 121 rfl (by decide +kernel)) (pmt5 122 rfl (by decide +kernel)) (pmt5 123 rfl (by decide +kernel)) hd hn
theorem zcallV_RX11_22 : zCallV RX11 (1, 0, 67, 0, 285) := fun hd hn => sn_callV (idx := 285) (C := RX0) (T := TX0) (N := 13) rfl (by decide) cal_67 (pmt4 152 rfl (by decide +kernel)) (pmt3 62 rfl (by decide +kernel)) (pmt3 63 rfl (by decide +kernel)) hd hn
theorem zcallV_RX11_23 : zCallV RX11 (1, 0, 68, 0, 291) := fun hd hn => sn_callV (idx := 291) (C := RX0) (T := TX0) (N := 13) rfl (by decide) cal_68 (pmt4 157 rfl (by decide +kernel)) (pmt3 69 rfl (by decide +kernel)) (pmt3 70 rfl (by decide +kernel)) hd hn
theorem zcallV_RX11_24 : zCallV RX11 (1, 0, 69, 0, 304) := fun hd hn => sn_callV (idx := 304) (C := RX0) (T := TX0) (N := 13) rfl (by decide) cal_69 (pmt4 182 rfl (by decide +kernel)) (pmt4 183 rfl (by decide +kernel)) (pmt4 184 rfl (by decide +kernel)) hd hn
theorem zcallV_RX11_25 : zCallV RX11 (1, 0, 74, 2, 199) := fun hd hn => sn_callV (idx := 199) (C := RX0) (T := TX0) (N := 13) rfl (by decide) cal_74 (pmt3 228 rfl (by decide +kernel)) (pmt3 229 rfl (by decide +kernel)) (pmt3 230 rfl (by decide +kernel)) hd hn
theorem zcallV_RX11_26 : zCallV RX11 (1, 0, 75, 0, 436) := fun hd hn => sn_callV (idx := 436) (C := RX0) (T := TX0) (N := 13) rfl (by decide) cal_75 (pmt6 35 rfl (by decide +kernel)) (pmt6 36 rfl (by decide +kernel)) (pmt6 37 rfl (by decide +kernel)) hd hn
theorem zcallV_RX11_27 : zCallV RX11 (1, 0, 76, 4, 206) := fun hd hn => sn_callV (idx := 206) (C := RX0) (T := TX0) (N := 13) rfl (by decide) cal_76 (pmt4 5 rfl (by decide +kernel)) (pmt4 6 rfl (by decide +kernel)) (pmt4 7 rfl (by decide +kernel)) hd hn
theorem zcallV_RX11_28 : zCallV RX11 (1, 0, 77, 2, 160) := fun hd hn => sn_callV (idx := 160) (C := RX0) (T := TX0) (N := 13) rfl (by decide) cal_77 (pmt6 115 rfl (by decide +kernel)) (pmt5 2 rfl (by decide +kernel)) (pmt5 3 rfl (by decide +kernel)) hd hn
theorem zcallV_RX11_29 : zCallV RX11 (1, 0, 79, 2, 375) := fun hd hn => sn_callV (idx := 375) (C := RX0) (T := TX0) (N := 13) rfl (by decide) cal_79 (pmt5 117 rfl (by decide +kernel)) (pmt5 118 rfl (by decide +kernel)) (pmt5 119 rfl (by decide +kernel)) hd hn
theorem zcallV_RX11_30 : zCallV RX11 (1, 0, 80, 3, 368) := fun hd hn => sn_callV (idx := 368) (C := RX0) (T := TX0) (N := 13) rfl (by decide) cal_80 (pmt5 104 rfl (by decide +kernel)) (pmt4 33 rfl (by decide +kernel)) (pmt4 34 rfl (by decide +kernel)) hd hn
theorem zcallV_RX11_31 : zCallV RX11 (1, 0, 81, 4, 372) := fun hd hn => sn_callV (idx := 372) (C := RX0) (T := TX0) (N := 13) rfl (by decide) cal_81 (pmt5 105 rfl (by decide +kernel)) (pmt5 106 rfl (by decide +kernel)) (pmt5 107 rfl (by decide +kernel)) hd hn
theorem zcallV_RX11_32 : zCallV RX11 (1, 0, 82, 3, 445) := fun hd hn => sn_callV (idx := 445) (C := RX0) (T := TX0) (N := 13) rfl (by decide) cal_82 (pmt4 27 rfl (by decide +kernel)) (pmt4 28 rfl (by decide +kernel)) (pmt4 29 rfl (by decide +kernel)) hd hn
theorem zcallV_RX11_33 : zCallV RX11 (1, 0, 83, 1, 357) := fun hd hn => sn_callV (idx := 357) (C := RX0) (T := TX0) (N := 13) rfl (by decide) cal_83 (pmt5 81 rfl (by decide +kernel)) (pmt5 82 rfl (by decide +kernel)) (pmt5 83 rfl (by decide +kernel)) hd hn
theorem zcallV_RX11_34 : zCallV RX11 (1, 0, 84, 3, 381) := fun hd hn => sn_callV (idx := 381) (C := RX0) (T := TX0) (N := 13) rfl (by decide) cal_84 (pmt5 129 rfl (by decide +kernel)) (pmt5 130 rfl (by decide +kernel)) (pmt5 131 rfl (by decide +kernel)) hd hn
theorem zcallV_RX11_35 : zCallV RX11 (1, 0, 85, 1, 472) := fun hd hn => sn_callV (idx := 472) (C := RX0) (T := TX0) (N := 13) rfl (by decide) cal_85 (pmt5 180 rfl (by decide +kernel)) (pmt5 181 rfl (by decide +kernel)) (pmt5 182 rfl (by decide +kernel)) hd hn
theorem zcallV_RX11_36 : zCallV RX11 (1, 0, 86, 2, 153) := fun hd hn => sn_callV (idx := 153) (C := RX0) (T := TX0) (N := 13) rfl (by decide) cal_86 (pmt6 113 rfl (by decide +kernel)) (pmt4 65 rfl (by decide +kernel)) (pmt4 66 rfl (by decide +kernel)) hd hn
theorem zcallV_RX11_37 : zCallV RX11 (1, 0, 87, 2, 157) := fun hd hn => sn_callV (idx := 157) (C := RX0) (T := TX0) (N := 13) rfl (by decide) cal_87 (pmt6 114 rfl (by decide +kernel)) (pmt4 74 rfl (by decide +kernel)) (pmt4 75 rfl (by decide +kernel)) hd hn
theorem zcallV_RX11_38 : zCallV RX11 (1, 0, 88, 1, 224) := fun hd hn => sn_callV (idx := 224) (C := RX0) (T := TX0) (N := 13) rfl (by decide) cal_88 (pmt4 69 rfl (by decide +kernel)) (pmt4 70 rfl (by decide +kernel)) (pmt4 71 rfl (by decide +kernel)) hd hn
theorem zcallV_RX11_39 : zCallV RX11 (1, 0, 89, 1, 220) := fun hd hn => sn_callV (idx := 220) (C := RX0) (T := TX0) (N := 13) rfl (by decide) cal_89 (pmt4 56 rfl (by decide +kernel)) (pmt4 57 rfl (by decide +kernel)) (pmt4 58 rfl (by decide +kernel)) hd hn
theorem zcallV_RX11_40 : zCallV RX11 (1, 0, 91, 1, 247) := fun hd hn => sn_callV (idx := 247) (C := RX0) (T := TX0) (N := 13) rfl (by decide) cal_91 (pmt4 117 rfl (by decide +kernel)) (pmt4 118 rfl (by decide +kernel)) (pmt4 119 rfl (by decide +kernel)) hd hn
theorem zcallV_RX11_41 : zCallV RX11 (1, 0, 92, 0, 300) := fun hd hn => sn_callV (idx := 300) (C := RX0) (T := TX0) (N := 13) rfl (by decide) cal_92 (pmt4 178 rfl (by decide +kernel)) (pmt4 179 rfl (by decide +kernel)) (pmt4 180 rfl (by decide +kernel)) hd hn
theorem zcallV_RX11_42 : zCallV RX11 (1, 0, 93, 1, 178) := fun hd hn => sn_callV (idx := 178) (C := RX0) (T := TX0) (N := 13) rfl (by decide) cal_93 (pmt6 124 rfl (by decide +kernel)) (pmt4 232 rfl (by decide +kernel)) (pmt4 233 rfl (by decide +kernel)) hd hn
theorem zcallV_RX11_43 : zCallV RX11 (1, 0, 94, 1, 288) := fun hd hn => sn_callV (idx := 288) (C := RX0) (T := TX0) (N := 13) rfl (by decide) cal_94 (pmt4 153 rfl (by decide +kernel)) (pmt4 154 rfl (by decide +kernel)) (pmt4 155 rfl (by decide +kernel)) hd hn
theorem zcallV_RX11_44 : zCallV RX11 (1, 0, 97, 2, 294) := fun hd hn => sn_callV (idx := 294) (C := RX0) (T := TX0) (N := 13) rfl (by decide) cal_97 (pmt4 158 rfl (by decide +kernel)) (pmt4 159 rfl (by decide +kernel)) (pmt4 160 rfl (by decide +kernel)) hd hn
theorem zcallV_RX11_45 : zCallV RX11 (1, 0, 100, 1, 350) := fun hd hn => sn_callV (idx := 350) (C := RX0) (T := TX0) (N := 13) rfl (by decide) cal_100 (pmt5 60 rfl (by decide +kernel)) (pmt5 61 rfl (by decide +kernel)) (pmt5 62 rfl (by decide +kernel)) hd hn
theorem zcallV_RX11_46 : zCallV RX11 (1, 0, 101, 1, 279) := fun hd hn => sn_callV (idx := 279) (C := RX0) (T := TX0) (N := 13) rfl (by decide) cal_101 (pmt4 140 rfl (by decide +kernel)) (pmt4 141 rfl (by decide +kernel)) (pmt4 142 rfl (by decide +kernel)) hd hn
theorem zcallV_RX11_47 : zCallV RX11 (1, 0, 102, 1, 340) := fun hd hn => sn_callV (idx := 340) (C := RX0) (T := TX0) (N := 13) rfl (by decide) cal_102 (pmt5 54 rfl (by decide +kernel)) (pmt4 78 rfl (by decide +kernel)) (pmt4 79 rfl (by decide +kernel)) hd hn
theorem zcallV_RX11_48 : zCallV RX11 (1, 0, 103, 1, 282) := fun hd hn => sn_callV (idx := 282) (C := RX0) (T := TX0) (N := 13) rfl (by decide) cal_103 (pmt4 144 rfl (by decide +kernel)) (pmt4 145 rfl (by decide +kernel)) (pmt4 146 rfl (by decide +kernel)) hd hn
theorem zcallV_RX11_49 : zCallV RX11 (1, 0, 104, 1, 337) := fun hd hn => sn_callV (idx := 337) (C := RX0) (T := TX0) (N := 13) rfl (by decide) cal_104 (pmt5 50 rfl (by decide +kernel)) (pmt5 51 rfl (by decide +kernel)) (pmt5 52 rfl (by decide +kernel)) hd hn
theorem zcallV_RX11_50 : zCallV RX11 (1, 0, 105, 1, 334) := fun hd hn => sn_callV (idx := 334) (C := RX0) (T := TX0) (N := 13) rfl (by decide) cal_105 (pmt5 45 rfl (by decide +kernel)) (pmt5 46 rfl (by decide +kernel)) (pmt5 47 rfl (by decide +kernel)) hd hn
theorem zcallV_RX11_51 : zCallV RX11 (1, 0, 106, 2, 360) := fun hd hn => sn_callV (idx := 360) (C := RX0) (T := TX0) (N := 13) rfl (by decide) cal_106 (pmt5 90 rfl (by decide +kernel)) (pmt5 91 rfl (by decide +kernel)) (pmt5 92 rfl (by decide +kernel)) hd hn
theorem zcallV_RX11_52 : zCallV RX11 (1, 1, 107, 1, 118) := fun hd hn => sn_callV (idx := 118) (C := RX1) (T := TX1) (N := 1) rfl (by decide) cal_107 (pmt2 202 rfl (by decide +kernel)) (pmt2 203 rfl (by decide +kernel)) (pmt2 204 rfl (by decide +kernel)) hd hn
theorem zcallV_RX11_53 : zCallV RX11 (1, 2, 112, 2, 475) := fun hd hn => sn_callV (idx := 475) (C := RX2) (T := TX2) (N := 10) rfl (by decide) cal_112 (pmt5 184 rfl (by decide +kernel)) (pmt5 185 rfl (by decide +kernel)) (pmt5 186 rfl (by decide +kernel)) hd hn
theorem zcallV_RX11_54 : zCallV RX11 (1, 2, 113, 2, 479) := fun hd hn => sn_callV (idx := 479) (C := RX2) (T := TX2) (N := 10) rfl (by decide) cal_113 (pmt5 192 rfl (by decide +kernel)) (pmt5 193 rfl (by decide +kernel)) (pmt5 194 rfl (by decide +kernel)) hd hn
theorem zcallV_RX11_55 : zCallV RX11 (1, 2, 114, 2, 412) := fun hd hn => sn_callV (idx := 412) (C := RX2) (T := TX2) (N := 10) rfl (by decide) cal_114 (pmt5 236 rfl (by decide +kernel)) (pmt5 202 rfl (by decide +kernel)) (pmt5 203 rfl (by decide +kernel)) hd hn
theorem zcallV_RX11_56 : zCallV RX11 (1, 2, 119, 1, 404) := fun hd hn => sn_callV (idx := 404) (C := RX2) (T := TX2) (N := 10) rfl (by decide) cal_119 (pmt5 215 rfl (by decide +kernel)) (pmt5 216 rfl (by decide +kernel)) (pmt5 217 rfl (by decide +kernel)) hd hn
theorem zcallV_RX11_57 : zCallV RX11 (1, 2, 123, 0, 415) := fun hd hn => sn_callV (idx := 415) (C := RX2) (T := TX2) (N := 10) rfl (by decide) cal_123 (pmt6 1 rfl (by decide +kernel)) (pmt6 2 rfl (by decide +kernel)) (pmt6 3 rfl (by decide +kernel)) hd hn
theorem zcallV_RX11_58 : zCallV RX11 (1, 3, 126, 1, 429) := fun hd hn => sn_callV (idx := 429) (C := RX3) (T := TX3) (N := 6) rfl (by decide) cal_126 (pmt6 27 rfl (by decide +kernel)) (pmt6 28 rfl (by decide +kernel)) (pmt6 29 rfl (by decide +kernel)) hd hn
theorem zcallV_RX11_59 : zCallV RX11 (1, 6, 134, 0, 454) := fun hd hn => sn_callV (idx := 454) (C := RX6) (T := TX6) (N := 4) rfl (by decide) cal_134 (pmt4 109 rfl (by decide +kernel)) (pmt3 37 rfl (by decide +kernel)) (pmt3 38 rfl (by decide +kernel)) hd hn
theorem zcallV_RX11_60 : zCallV RX11 (1, 6, 136, 0, 460) := fun hd hn => sn_callV (idx := 460) (C := RX6) (T := TX6) (N := 4) rfl (by decide) cal_136 (pmt4 110 rfl (by decide +kernel)) (pmt3 54 rfl (by decide +kernel)) (pmt3 55 rfl (by decide +kernel)) hd hn
theorem zcallV_RX11_61 : zCallV RX11 (1, 6, 139, 2, 465) := fun hd hn => sn_callV (idx := 465) (C := RX6) (T := TX6) (N := 4) rfl (by decide) cal_139 (pmt4 108 rfl (by decide +kernel)) (pmt2 226 rfl (by decide +kernel)) (pmt2 227 rfl (by decide +kernel)) hd hn
theorem zcallV_RX11_62 : zCallV RX11 (1, 6, 140, 2, 462) := fun hd hn => sn_callV (idx := 462) (C := RX6) (T := TX6) (N := 4) rfl (by decide) cal_140 (pmt4 106 rfl (by decide +kernel)) (pmt3 33 rfl (by decide +kernel)) (pmt3 34 rfl (by decide +kernel)) hd hn
theorem zcallV_RX11_63 : zCallV RX11 (1, 7, 143, 1, 128) := fun hd hn => sn_callV (idx := 128) (C := RX7) (T := TX7) (N := 3) rfl (by decide) cal_143 (pmt3 88 rfl (by decide +kernel)) (pmt3 89 rfl (by decide +kernel)) (pmt3 90 rfl (by decide +kernel)) hd hn
theorem zcallV_RX11_64 : zCallV RX11 (1, 7, 144, 3, 185) := fun hd hn => sn_callV (idx := 185) (C := RX7) (T := TX7) (N := 3) rfl (by decide) cal_144 (pmt4 225 rfl (by decide +kernel)) (pmt4 226 rfl (by decide +kernel)) (pmt4 227 rfl (by decide +kernel)) hd hn
theorem zcallV_RX11_65 : zCallV RX11 (1, 8, 152, 1, 104) := fun hd hn => sn_callV (idx := 104) (C := RX8) (T := TX8) (N := 2) rfl (by decide) cal_152 (pmt2 179 rfl (by decide +kernel)) (pmt2 180 rfl (by decide +kernel)) (pmt2 181 rfl (by decide +kernel)) hd hn
theorem zcallV_RX11_66 : zCallV RX11 (1, 8, 153, 1, 111) := fun hd hn => sn_callV (idx := 111) (C := RX8) (T := TX8) (N := 2) rfl (by decide) cal_153 (pmt2 187 rfl (by decide +kernel)) (pmt2 188 rfl (by decide +kernel)) (pmt2 189 rfl (by decide +kernel)) hd hn
theorem zcallV_RX11_67 : zCallV RX11 (1, 8, 154, 1, 241) := fun hd hn => sn_callV (idx := 241) (C := RX8) (T := TX8) (N := 2) rfl (by decide) cal_154 (pmt4 111 rfl (by decide +kernel)) (pmt4 112 rfl (by decide +kernel)) (pmt4 113 rfl (by decide +kernel)) hd hn
theorem zcallV_RX11_68 : zCallV RX11 (1, 9, 156, 2, 393) := fun hd hn => sn_callV (idx := 393) (C := RX9) (T := TX9) (N := 4) rfl (by decide) cal_156 (pmt5 154 rfl (by decide +kernel)) (pmt5 155 rfl (by decide +kernel)) (pmt5 156 rfl (by decide +kernel)) hd hn
theorem zcallV_RX11_69 : zCallV RX11 (1, 10, 163, 0, 347) := fun hd hn => sn_callV (idx := 347) (C := RX10) (T := TX10) (N := 12) rfl (by decide) cal_163 (pmt5 55 rfl (by decide +kernel)) (pmt4 200 rfl (by decide +kernel)) (pmt4 201 rfl (by decide +kernel)) hd hn
theorem zcallV_RX11_70 : zCallV RX11 (1, 10, 167, 0, 310) := fun hd hn => sn_callV (idx := 310) (C := RX10) (T := TX10) (N := 12) rfl (by decide) cal_167 (pmt4 194 rfl (by decide +kernel)) (pmt4 195 rfl (by decide +kernel)) (pmt4 196 rfl (by decide +kernel)) hd hn
theorem zcallV_RX11_71 : zCallV RX11 (1, 11, 11, 2, 244) := fun hd hn => sn_callV (idx := 244) (C := RX11) (T := TX11) (N := 18) rfl (by decide) cal_11 (pmt4 116 rfl (by decide +kernel)) (pmt4 12 rfl (by decide +kernel)) (pmt4 13 rfl (by decide +kernel)) hd hn
theorem zcallV_RX11_72 : zCallV RX11 (1, 11, 51, 4, 213) := fun hd hn => sn_callV (idx := 213) (C := RX11) (T := TX11) (N := 18) rfl (by decide) cal_51 (pmt4 15 rfl (by decide +kernel)) (pmt4 17 rfl (by decide +kernel)) (pms 14 rfl rfl) hd hn
theorem zcallV_RX11_73 : zCallV RX11 (1, 11, 53, 0, 234) := fun hd hn => sn_callV (idx := 234) (C := RX11) (T := TX11) (N := 18) rfl (by decide) cal_53 (pmt4 89 rfl (by decide +kernel)) (pmt4 91 rfl (by decide +kernel)) (pms 19 rfl rfl) hd hn
theorem zcallV_RX11_74 : zCallV RX11 (1, 11, 54, 0, 238) := fun hd hn => sn_callV (idx := 238) (C := RX11) (T := TX11) (N := 18) rfl (by decide) cal_54 (pmt4 97 rfl (by decide +kernel)) (pmt4 99 rfl (by decide +kernel)) (pms 20 rfl rfl) hd hn
theorem zcallV_RX11_75 : zCallV RX11 (1, 11, 56, 0, 384) := fun hd hn => sn_callV (idx := 384) (C := RX11) (T := TX11) (N := 18) rfl (by decide) cal_56 (pmt5 138 rfl (by decide +kernel)) (pmt5 140 rfl (by decide +kernel)) (pms 28 rfl rfl) hd hn
theorem zcallV_RX11_76 : zCallV RX11 (1, 11, 57, 0, 390) := fun hd hn => sn_callV (idx := 390) (C := RX11) (T := TX11) (N := 18) rfl (by decide) cal_57 (pmt5 146 rfl (by decide +kernel)) (pmt5 148 rfl (by decide +kernel)) (pms 29 rfl rfl) hd hn
theorem zcallV_RX11_77 : zCallV RX11 (1, 11, 59, 2, 327) := fun hd hn => sn_callV (idx := 327) (C := RX11) (T := TX11) (N := 18) rfl (by decide) cal_59 (pmt5 20 rfl (by decide +kernel)) (pmt5 22 rfl (by decide +kernel)) (pms 26 rfl rfl) hd hn
theorem zcallV_RX11_78 : zCallV RX11 (1, 11, 60, 3, 330) := fun hd hn => sn_callV (idx := 330) (C := RX11) (T := TX11) (N := 18) rfl (by decide) cal_60 (pmt5 37 rfl (by decide +kernel)) (pmt5 39 rfl (by decide +kernel)) (pms 27 rfl rfl) hd hn
theorem zcallV_RX11_79 : zCallV RX11 (1, 11, 61, 0, 401) := fun hd hn => sn_callV (idx := 401) (C := RX11) (T := TX11) (N := 18) rfl (by decide) cal_61 (pmt5 176 rfl (by decide +kernel)) (pmt5 178 rfl (by decide +kernel)) (pms 32 rfl rfl) hd hn
theorem zcallV_RX11_80 : zCallV RX11 (2, 11, 50, 1, 418) := fun hd hn => sn_callV (idx := 418) (C := RX11) (T := TX11) (N := 18) rfl (by decide) cal_50 (pmt6 14 rfl (by decide +kernel)) (pmt6 16 rfl (by decide +kernel)) (pms 41 rfl rfl) hd hn
theorem zcallV_RX11_ok : ∀ q ∈ zcallV_RX11, zCallV RX11 q := List.forall_mem_cons.mpr ⟨zcallV_RX11_0, List.forall_mem_cons.mpr ⟨zcallV_RX11_1, List.forall_mem_cons.mpr ⟨zcallV_RX11_2, List.forall_mem_cons.mpr ⟨zcallV_RX11_3, List.forall_mem_cons.mpr ⟨zcallV_RX11_4, List.forall_mem_cons.mpr ⟨zcallV_RX11_5, List.forall_mem_cons.mpr ⟨zcallV_RX11_6, List.forall_mem_cons.mpr ⟨zcallV_RX11_7, List.forall_mem_cons.mpr ⟨zcallV_RX11_8, List.forall_mem_cons.mpr ⟨zcallV_RX11_9, List.forall_mem_cons.mpr ⟨zcallV_RX11_10, List.forall_mem_cons.mpr ⟨zcallV_RX11_11, List.forall_mem_cons.mpr ⟨zcallV_RX11_12, List.forall_mem_cons.mpr ⟨zcallV_RX11_13, List.forall_mem_cons.mpr ⟨zcallV_RX11_14, List.forall_mem_cons.mpr ⟨zcallV_RX11_15, List.forall_mem_cons.mpr ⟨zcallV_RX11_16, List.forall_mem_cons.mpr ⟨zcallV_RX11_17, List.forall_mem_cons.mpr ⟨zcallV_RX11_18, List.forall_mem_cons.mpr ⟨zcallV_RX11_19, List.forall_mem_cons.mpr ⟨zcallV_RX11_20, List.forall_mem_cons.mpr ⟨zcallV_RX11_21, List.forall_mem_cons.mpr ⟨zcallV_RX11_22, List.forall_mem_cons.mpr ⟨zcallV_RX11_23, List.forall_mem_cons.mpr ⟨zcallV_RX11_24, List.forall_mem_cons.mpr ⟨zcallV_RX11_25, List.forall_mem_cons.mpr ⟨zcallV_RX11_26, List.forall_mem_cons.mpr ⟨zcallV_RX11_27, List.forall_mem_cons.mpr ⟨zcallV_RX11_28, List.forall_mem_cons.mpr ⟨zcallV_RX11_29, List.forall_mem_cons.mpr ⟨zcallV_RX11_30, List.forall_mem_cons.mpr ⟨zcallV_RX11_31, List.forall_mem_cons.mpr ⟨zcallV_RX11_32, List.forall_mem_cons.mpr ⟨zcallV_RX11_33, List.forall_mem_cons.mpr ⟨zcallV_RX11_34, List.forall_mem_cons.mpr ⟨zcallV_RX11_35, List.forall_mem_cons.mpr ⟨zcallV_RX11_36, List.forall_mem_cons.mpr ⟨zcallV_RX11_37, List.forall_mem_cons.mpr ⟨zcallV_RX11_38, List.forall_mem_cons.mpr ⟨zcallV_RX11_39, List.forall_mem_cons.mpr ⟨zcallV_RX11_40, List.forall_mem_cons.mpr ⟨zcallV_RX11_41, List.forall_mem_cons.mpr ⟨zcallV_RX11_42, List.forall_mem_cons.mpr ⟨zcallV_RX11_43, List.forall_mem_cons.mpr ⟨zcallV_RX11_44, List.forall_mem_cons.mpr ⟨zcallV_RX11_45, List.forall_mem_cons.mpr ⟨zcallV_RX11_46, List.forall_mem_cons.mpr ⟨zcallV_RX11_47, List.forall_mem_cons.mpr ⟨zcallV_RX11_48, List.forall_mem_cons.mpr ⟨zcallV_RX11_49, List.forall_mem_cons.mpr ⟨zcallV_RX11_50, List.forall_mem_cons.mpr ⟨zcallV_RX11_51, List.forall_mem_cons.mpr ⟨zcallV_RX11_52, List.forall_mem_cons.mpr ⟨zcallV_RX11_53, List.forall_mem_cons.mpr ⟨zcallV_RX11_54, List.forall_mem_cons.mpr ⟨zcallV_RX11_55, List.forall_mem_cons.mpr ⟨zcallV_RX11_56, List.forall_mem_cons.mpr ⟨zcallV_RX11_57, List.forall_mem_cons.mpr ⟨zcallV_RX11_58, List.forall_mem_cons.mpr ⟨zcallV_RX11_59, List.forall_mem_cons.mpr ⟨zcallV_RX11_60, List.forall_mem_cons.mpr ⟨zcallV_RX11_61, List.forall_mem_cons.mpr ⟨zcallV_RX11_62, List.forall_mem_cons.mpr ⟨zcallV_RX11_63, List.forall_mem_cons.mpr ⟨zcallV_RX11_64, List.forall_mem_cons.mpr ⟨zcallV_RX11_65, List.forall_mem_cons.mpr ⟨zcallV_RX11_66, List.forall_mem_cons.mpr ⟨zcallV_RX11_67, List.forall_mem_cons.mpr ⟨zcallV_RX11_68, List.forall_mem_cons.mpr ⟨zcallV_RX11_69, List.forall_mem_cons.mpr ⟨zcallV_RX11_70, List.forall_mem_cons.mpr ⟨zcallV_RX11_71, List.forall_mem_cons.mpr ⟨zcallV_RX11_72, List.forall_mem_cons.mpr ⟨zcallV_RX11_73, List.forall_mem_cons.mpr ⟨zcallV_RX11_74, List.forall_mem_cons.mpr ⟨zcallV_RX11_75, List.forall_mem_cons.mpr ⟨zcallV_RX11_76, List.forall_mem_cons.mpr ⟨zcallV_RX11_77, List.forall_mem_cons.mpr ⟨zcallV_RX11_78, List.forall_mem_cons.mpr ⟨zcallV_RX11_79, List.forall_mem_cons.mpr ⟨zcallV_RX11_80, fun _ h => absurd h List.not_mem_nil⟩⟩⟩⟩⟩⟩⟩⟩⟩⟩⟩⟩⟩⟩⟩⟩⟩⟩⟩⟩⟩⟩⟩⟩⟩⟩⟩⟩⟩⟩⟩⟩⟩⟩⟩⟩⟩⟩⟩⟩⟩⟩⟩⟩⟩⟩⟩⟩⟩⟩⟩⟩⟩⟩⟩⟩⟩⟩⟩⟩⟩⟩⟩⟩⟩⟩⟩⟩⟩⟩⟩⟩⟩⟩⟩⟩⟩⟩⟩⟩⟩
def zgetf_RX12 : List (Nat × Nat × Nat) := [(12, 0, 113), (12, 1, 9), (12, 2, 13), (12, 3, 120), (12, 4, 16), (12, 5, 19), (12, 6, 22), (12, 7, 25), (12, 8, 161), (12, 9, 28), (12, 10, 291), (12, 11, 275), (12, 12, 31), (12, 13, 35), (12, 14, 123), (12, 15, 39), (12, 16, 110), (12, 18, 126), (12, 19, 129), (12, 20, 132), (12, 21, 135), (12, 22, 138), (12, 23, 42), (12, 24, 45), (12, 25, 219), (12, 26, 48), (12, 27, 202), (12, 28, 51), (12, 29, 54), (12, 30, 249), (12, 31, 57), (12, 32, 60), (12, 33, 186), (12, 34, 63), (12, 35, 66), (12, 36, 69), (12, 37, 72), (12, 38, 312), (12, 39, 303), (12, 40, 306), (12, 41, 75), (12, 42, 78), (12, 43, 354), (12, 44, 350), (12, 45, 81), (12, 46, 85), (12, 47, 89), (12, 48, 363), (12, 49, 366), (12, 50, 92), (12, 51, 95), (12, 52, 183), (12, 53, 98), (12, 54, 101), (12, 55, 104)]
theorem zgetf_RX12_0 : zGetf RX12 (12, 0, 113) := fun hd hn => sn_getf (C := RX12) (T := TX12) (N := 56) (idx := 113) rfl pin12 (by decide) (by decide) rfl (pmt6 140 rfl (by decide +kernel)) rfl hd hn
theorem zgetf_RX12_1 : zGetf RX12 (12, 1, 9) := fun hd hn => sn_getf (C := RX12) (T := TX12) (N := 56) (idx := 9) rfl pin12 (by decide) (by decide) rfl (pmt6 141 rfl (by decide +kernel)) rfl hd hn
theorem zgetf_RX12_2 : zGetf RX12 (12, 2, 13) := fun hd hn => sn_getf (C := RX12) (T := TX12) (N := 56) (idx := 13) rfl pin12 (by decide) (by decide) rfl (pmt6 142 rfl (by decide +kernel)) rfl hd hn
theorem zgetf_RX12_3 : zGetf RX12 (12, 3, 120) := fun hd hn => sn_getf (C := RX12) (T := TX12) (N := 56) (idx := 120) rfl pin12 (by decide) (by decide) rfl (pmt6 143 rfl (by decide +kernel)) rfl hd hn
theorem zgetf_RX12_4 : zGetf RX12 (12, 4, 16) := fun hd hn => sn_getf (C := RX12) (T := TX12) (N := 56) (idx := 16) rfl pin12 (by decide) (by decide) rfl (pmt6 144 rfl (by decide +kernel)) rfl hd hn
theorem zgetf_RX12_5 : zGetf RX12 (12, 5, 19) := fun hd hn => sn_getf (C := RX12) (T := TX12) (N := 56) (idx := 19) rfl pin12 (by decide) (by decide) rfl (pmt6 145 rfl (by decide +kernel)) rfl hd hn
theorem zgetf_RX12_6 : zGetf RX12 (12, 6, 22) := fun hd hn => sn_getf (C := RX12) (T := TX12) (N := 56) (idx := 22) rfl pin12 (by decide) (by decide) rfl (pmt6 146 rfl (by decide +kernel)) rfl hd hn
theorem zgetf_RX12_7 : zGetf RX12 (12, 7, 25) := fun hd hn => sn_getf (C := RX12) (T := TX12) (N := 56) (idx := 25) rfl pin12 (by decide) (by decide) rfl (pmt6 147 rfl (by decide +kernel)) rfl hd hn
theorem zgetf_RX12_8 : zGetf RX12 (12, 8, 161) := fun hd hn => sn_getf (C := RX12) (T := TX12) (N := 56) (idx := 161) rfl pin12 (by decide) (by decide) rfl (pmt6 148 rfl (by decide +kernel)) rfl hd hn
theorem zgetf_RX12_9 : zGetf RX12 (12, 9, 28) := fun hd hn => sn_getf (C := RX12) (T := TX12) (N := 56) (idx := 28) rfl pin12 (by decide) (by decide) rfl (pmt6 149 rfl (by decide +kernel)) rfl hd hn
theorem zgetf_RX12_10 : zGetf RX12 (12, 10, 291) := fun hd hn => sn_getf (C := RX12) (T := TX12) (N := 56) (idx := 291) rfl pin12 (by decide) (by decide) rfl (pmt6 150 rfl (by decide +kernel)) rfl hd hn
theorem zgetf_RX12_11 : zGetf RX12 (12, 11, 275) := fun hd hn => sn_getf (C := RX12) (T := TX12) (N := 56) (idx := 275) rfl pin12 (by decide) (by decide) rfl (pmt6 151 rfl (by decide +kernel)) rfl hd hn
theorem zgetf_RX12_12 : zGetf RX12 (12, 12, 31) := fun hd hn => sn_getf (C := RX12) (T := TX12) (N := 56) (idx := 31) rfl pin12 (by decide) (by decide) rfl (pmt6 152 rfl (by decide +kernel)) rfl hd hn
theorem zgetf_RX12_13 : zGetf RX12 (12, 13, 35) := fun hd hn => sn_getf (C := RX12) (T := TX12) (N := 56) (idx := 35) rfl pin12 (by decide) (by decide) rfl (pmt6 153 rfl (by decide +kernel)) rfl hd hn
theorem zgetf_RX12_14 : zGetf RX12 (12, 14, 123) := fun hd hn => sn_getf (C := RX12) (T := TX12) (N := 56) (idx := 123) rfl pin12 (by decide) (by decide) rfl (pmt6 154 rfl (by decide +kernel)) rfl hd hn
theorem zgetf_RX12_15 : zGetf RX12 (12, 15, 39) := fun hd hn => sn_getf (C := RX12) (T := TX12) (N := 56) (idx := 39) rfl pin12 (by decide) (by decide) rfl (pmt6 155 rfl (by decide +kernel)) rfl hd hn
theorem zgetf_RX12_16 : zGetf RX12 (12, 16, 110) := fun hd hn => sn_getf (C := RX12) (T := TX12) (N := 56) (idx := 110) rfl pin12 (by decide) (by decide) rfl (pmt6 156 rfl (by decide +kernel)) rfl hd hn
theorem zgetf_RX12_17 : zGetf RX12 (12, 18, 126) := fun hd hn => sn_getf (C := RX12) (T := TX12) (N := 56) (idx := 126) rfl pin12 (by decide) (by decide) rfl (pmt6 158 rfl (by decide +kernel)) rfl hd hn
theorem zgetf_RX12_18 : zGetf RX12 (12, 19, 129) := fun hd hn => sn_getf (C := RX12) (T := TX12) (N := 56) (idx := 129) rfl pin12 (by decide) (by decide) rfl (pmt6 159 rfl (by decide +kernel)) rfl hd hn
theorem zgetf_RX12_19 : zGetf RX12 (12, 20, 132) := fun hd hn => sn_getf (C := RX12) (T := TX12) (N := 56) (idx := 132) rfl pin12 (by decide) (by decide) rfl (pmt6 160 rfl (by decide +kernel)) rfl hd hn
theorem zgetf_RX12_20 : zGetf RX12 (12, 21, 135) := fun hd hn => sn_getf (C := RX12) (T := TX12) (N := 56) (idx := 135) rfl pin12 (by decide) (by decide) rfl (pmt6 161 rfl (by decide +kernel)) rfl hd hn
theorem zgetf_RX12_21 : zGetf RX12 (12, 22, 138) := fun hd hn => sn_getf (C := RX12) (T := TX12) (N := 56) (idx := 138) rfl pin12 (by decide) (by decide) rfl (pmt6 162 rfl (by decide +kernel)) rfl hd hn
theorem zgetf_RX12_22 : zGetf RX12 (12, 23, 42) := fun hd hn => sn_getf (C := RX12) (T := TX12) (N := 56) (idx := 42) rfl pin12 (by decide) (by decide) rfl (pmt6 163 rfl (by decide +kernel)) rfl hd hn
theorem zgetf_RX12_23 : zGetf RX12 (12, 24, 45) := fun hd hn => sn_getf (C := RX12) (T := TX12) (N := 56) (idx := 45) rfl pin12 (by decide) (by decide) rfl (pmt6 164 rfl (by decide +kernel)) rfl hd hn
theorem zgetf_RX12_24 : zGetf RX12 (12, 25, 219) := fun hd hn => sn_getf (C := RX12) (T := TX12) (N := 56) (idx := 219) rfl pin12 (by decide) (by decide) rfl (pmt6 165 rfl (by decide +kernel)) rfl hd hn
theorem zgetf_RX12_25 : zGetf RX12 (12, 26, 48) := fun hd hn => sn_getf (C := RX12) (T := TX12) (N := 56) (idx := 48) rfl pin12 (by decide) (by decide) rfl (pmt6 166 rfl (by decide +kernel)) rfl hd hn
theorem zgetf_RX12_26 : zGetf RX12 (12, 27, 202) := fun hd hn => sn_getf (C := RX12) (T := TX12) (N := 56) (idx := 202) rfl pin12 (by decide) (by decide) rfl (pmt6 167 rfl (by decide +kernel)) rfl hd hn
theorem zgetf_RX12_27 : zGetf RX12 (12, 28, 51) := fun hd hn => sn_getf (C := RX12) (T := TX12) (N := 56) (idx := 51) rfl pin12 (by decide) (by decide) rfl (pmt6 168 rfl (by decide +kernel)) rfl hd hn
theorem zgetf_RX12_28 : zGetf RX12 (12, 29, 54) := fun hd hn => sn_getf (C := RX12) (T := TX12) (N := 56) (idx := 54) rfl pin12 (by decide) (by decide) rfl (pmt6 169 rfl (by decide +kernel)) rfl hd hn
theorem zgetf_RX12_29 : zGetf RX12 (12, 30, 249) := fun hd hn => sn_getf (C := RX12) (T := TX12) (N := 56) (idx := 249) rfl pin12 (by decide) (by decide) rfl (pmt6 170 rfl (by decide +kernel)) rfl hd hn
theorem zgetf_RX12_30 : zGetf RX12 (12, 31, 57) := fun hd hn => sn_getf (C := RX12) (T := TX12) (N := 56) (idx := 57) rfl pin12 (by decide) (by decide) rfl (pmt6 171 rfl (by decide +kernel)) rfl hd hn
theorem zgetf_RX12_31 : zGetf RX12 (12, 32, 60) := fun hd hn => sn_getf (C := RX12) (T := TX12) (N := 56) (idx := 60) rfl pin12 (by decide) (by decide) rfl (pmt6 172 rfl (by decide +kernel)) rfl hd hn
theorem zgetf_RX12_32 : zGetf RX12 (12, 33, 186) := fun hd hn => sn_getf (C := RX12) (T := TX12) (N := 56) (idx := 186) rfl pin12 (by decide) (by decide) rfl (pmt6 173 rfl (by decide +kernel)) rfl hd hn
theorem zgetf_RX12_33 : zGetf RX12 (12, 34, 63) := fun hd hn => sn_getf (C := RX12) (T := TX12) (N := 56) (idx := 63) rfl pin12 (by decide) (by decide) rfl (pmt6 174 rfl (by decide +kernel)) rfl hd hn
theorem zgetf_RX12_34 : zGetf RX12 (12, 35, 66) := fun hd hn => sn_getf (C := RX12) (T := TX12) (N := 56) (idx := 66) rfl pin12 (by decide) (by decide) rfl (pmt6 175 rfl (by decide +kernel)) rfl hd hn
theorem zgetf_RX12_35 : zGetf RX12 (12, 36, 69) := fun hd hn => sn_getf (C := RX12) (T := TX12) (N := 56) (idx := 69) rfl pin12 (by decide) (by decide) rfl (pmt6 176 rfl (by decide +kernel)) rfl hd hn
theorem zgetf_RX12_36 : zGetf RX12 (12, 37, 72) := fun hd hn => sn_getf (C := RX12) (T := TX12) (N := 56) (idx := 72) rfl pin12 (by decide) (by decide) rfl (pmt6 177 rfl (by decide +kernel)) rfl hd hn
theorem zgetf_RX12_37 : zGetf RX12 (12, 38, 312) := fun hd hn => sn_getf (C := RX12) (T := TX12) (N := 56) (idx := 312) rfl pin12 (by decide) (by decide) rfl (pmt6 178 rfl (by decide +kernel)) rfl hd hn
theorem zgetf_RX12_38 : zGetf RX12 (12, 39, 303) := fun hd hn => sn_getf (C := RX12) (T := TX12) (N := 56) (idx := 303) rfl pin12 (by decide) (by decide) rfl (pmt6 179 rfl (by decide +kernel)) rfl hd hn
theorem zgetf_RX12_39 : zGetf RX12 (12, 40, 306) := fun hd hn => sn_getf (C := RX12) (T := TX12) (N := 56) (idx := 306) rfl pin12 (by decide) (by decide) rfl (pmt6 180 rfl (by decide +kernel)) rfl hd hn
theorem zgetf_RX12_40 : zGetf RX12 (12, 41, 75) := fun hd hn => sn_getf (C := RX12) (T := TX12) (N := 56) (idx := 75) rfl pin12 (by decide) (by decide) rfl (pmt6 181 rfl (by decide +kernel)) rfl hd hn
theorem zgetf_RX12_41 : zGetf RX12 (12, 42, 78) := fun hd hn => sn_getf (C := RX12) (T := TX12) (N := 56) (idx := 78) rfl pin12 (by decide) (by decide) rfl (pmt6 182 rfl (by decide +kernel)) rfl hd hn
theorem zgetf_RX12_42 : zGetf RX12 (12, 43, 354) := fun hd hn => sn_getf (C := RX12) (T := TX12) (N := 56) (idx := 354) rfl pin12 (by decide) (by decide) rfl (pmt6 183 rfl (by decide +kernel)) rfl hd hn
theorem zgetf_RX12_43 : zGetf RX12 (12, 44, 350) := fun hd hn => sn_getf (C := RX12) (T := TX12) (N := 56) (idx := 350) rfl pin12 (by decide) (by decide) rfl (pmt6 184 rfl (by decide +kernel)) rfl hd hn
theorem zgetf_RX12_44 : zGetf RX12 (12, 45, 81) := fun hd hn => sn_getf (C := RX12) (T := TX12) (N := 56) (idx := 81) rfl pin12 (by decide) (by decide) rfl (pmt6 185 rfl (by decide +kernel)) rfl hd hn
theorem zgetf_RX12_45 : zGetf RX12 (12, 46, 85) := fun hd hn => sn_getf (C := RX12) (T := TX12) (N := 56) (idx := 85) rfl pin12 (by decide) (by decide) rfl (pmt6 186 rfl (by decide +kernel)) rfl hd hn
theorem zgetf_RX12_46 : zGetf RX12 (12, 47, 89) := fun hd hn => sn_getf (C := RX12) (T := TX12) (N := 56) (idx := 89) rfl pin12 (by decide) (by decide) rfl (pmt6 187 rfl (by decide +kernel)) rfl hd hn
theorem zgetf_RX12_47 : zGetf RX12 (12, 48, 363) := fun hd hn => sn_getf (C := RX12) (T := TX12) (N := 56) (idx := 363) rfl pin12 (by decide) (by decide) rfl (pmt6 188 rfl (by decide +kernel)) rfl hd hn
theorem zgetf_RX12_48 : zGetf RX12 (12, 49, 366) := fun hd hn => sn_getf (C := RX12) (T := TX12) (N := 56) (idx := 366) rfl pin12 (by decide) (by decide) rfl (pmt6 189 rfl (by decide +kernel)) rfl hd hn
theorem zgetf_RX12_49 : zGetf RX12 (12, 50, 92) := fun hd hn => sn_getf (C := RX12) (T := TX12) (N := 56) (idx := 92) rfl pin12 (by decide) (by decide) rfl (pmt6 190 rfl (by decide +kernel)) rfl hd hn
theorem zgetf_RX12_50 : zGetf RX12 (12, 51, 95) := fun hd hn => sn_getf (C := RX12) (T := TX12) (N := 56) (idx := 95) rfl pin12 (by decide) (by decide) rfl (pmt6 191 rfl (by decide +kernel)) rfl hd hn
theorem zgetf_RX12_51 : zGetf RX12 (12, 52, 183) := fun hd hn => sn_getf (C := RX12) (T := TX12) (N := 56) (idx := 183) rfl pin12 (by decide) (by decide) rfl (pmt6 192 rfl (by decide +kernel)) rfl hd hn
theorem zgetf_RX12_52 : zGetf RX12 (12, 53, 98) := fun hd hn => sn_getf (C := RX12) (T := TX12) (N := 56) (idx := 98) rfl pin12 (by decide) (by decide) rfl (pmt6 193 rfl (by decide +kernel)) rfl hd hn
theorem zgetf_RX12_53 : zGetf RX12 (12, 54, 101) := fun hd hn => sn_getf (C := RX12) (T := TX12) (N := 56) (idx := 101) rfl pin12 (by decide) (by decide) rfl (pmt6 194 rfl (by decide +kernel)) rfl hd hn
theorem zgetf_RX12_54 : zGetf RX12 (12, 55, 104) := fun hd hn => sn_getf (C := RX12) (T := TX12) (N := 56) (idx := 104) rfl pin12 (by decide) (by decide) rfl (pmt6 195 rfl (by decide +kernel)) rfl hd hn
theorem zgetf_RX12_ok : ∀ q ∈ zgetf_RX12, zGetf RX12 q := List.forall_mem_cons.mpr ⟨zgetf_RX12_0, List.forall_mem_cons.mpr ⟨zgetf_RX12_1, List.forall_mem_cons.mpr ⟨zgetf_RX12_2, List.forall_mem_cons.mpr ⟨zgetf_RX12_3, List.forall_mem_cons.mpr ⟨zgetf_RX12_4, List.forall_mem_cons.mpr ⟨zgetf_RX12_5, List.forall_mem_cons.mpr ⟨zgetf_RX12_6, List.forall_mem_cons.mpr ⟨zgetf_RX12_7, List.forall_mem_cons.mpr ⟨zgetf_RX12_8, List.forall_mem_cons.mpr ⟨zgetf_RX12_9, List.forall_mem_cons.mpr ⟨zgetf_RX12_10, List.forall_mem_cons.mpr ⟨zgetf_RX12_11, List.forall_mem_cons.mpr ⟨zgetf_RX12_12, List.forall_mem_cons.mpr ⟨zgetf_RX12_13, List.forall_mem_cons.mpr ⟨zgetf_RX12_14, List.forall_mem_cons.mpr ⟨zgetf_RX12_15, List.forall_mem_cons.mpr ⟨zgetf_RX12_16, List.forall_mem_cons.mpr ⟨zgetf_RX12_17, List.forall_mem_cons.mpr ⟨zgetf_RX12_18, List.forall_mem_cons.mpr ⟨zgetf_RX12_19, List.forall_mem_cons.mpr ⟨zgetf_RX12_20, List.forall_mem_cons.mpr ⟨zgetf_RX12_21, List.forall_mem_cons.mpr ⟨zgetf_RX12_22, List.forall_mem_cons.mpr ⟨zgetf_RX12_23, List.forall_mem_cons.mpr ⟨zgetf_RX12_24, List.forall_mem_cons.mpr ⟨zgetf_RX12_25, List.forall_mem_cons.mpr ⟨zgetf_RX12_26, List.forall_mem_cons.mpr ⟨zgetf_RX12_27, List.forall_mem_cons.mpr ⟨zgetf_RX12_28, List.forall_mem_cons.mpr ⟨zgetf_RX12_29, List.forall_mem_cons.mpr ⟨zgetf_RX12_30, List.forall_mem_cons.mpr ⟨zgetf_RX12_31, List.forall_mem_cons.mpr ⟨zgetf_RX12_32, List.forall_mem_cons.mpr ⟨zgetf_RX12_33, List.forall_mem_cons.mpr ⟨zgetf_RX12_34, List.forall_mem_cons.mpr ⟨zgetf_RX12_35, List.forall_mem_cons.mpr ⟨zgetf_RX12_36, List.forall_mem_cons.mpr ⟨zgetf_RX12_37, List.forall_mem_cons.mpr ⟨zgetf_RX12_38, List.forall_mem_cons.mpr ⟨zgetf_RX12_39, List.forall_mem_cons.mpr ⟨zgetf_RX12_40, List.forall_mem_cons.mpr ⟨zgetf_RX12_41, List.forall_mem_cons.mpr ⟨zgetf_RX12_42, List.forall_mem_cons.mpr ⟨zgetf_RX12_43, List.forall_mem_cons.mpr ⟨zgetf_RX12_44, List.forall_mem_cons.mpr ⟨zgetf_RX12_45, List.forall_mem_cons.mpr ⟨zgetf_RX12_46, List.forall_mem_cons.mpr ⟨zgetf_RX12_47, List.forall_mem_cons.mpr ⟨zgetf_RX12_48, List.forall_mem_cons.mpr ⟨zgetf_RX12_49, List.forall_mem_cons.mpr ⟨zgetf_RX12_50, List.forall_mem_cons.mpr ⟨zgetf_RX12_51, List.forall_mem_cons.mpr ⟨zgetf_RX12_52, List.forall_mem_cons.mpr ⟨zgetf_RX12_53, List.forall_mem_cons.mpr ⟨zgetf_RX12_54, fun _ h => absurd h List.not_mem_nil⟩⟩⟩⟩⟩⟩⟩⟩⟩⟩⟩⟩⟩⟩⟩⟩⟩⟩⟩⟩⟩⟩⟩⟩⟩⟩⟩⟩⟩⟩⟩⟩⟩⟩⟩⟩⟩⟩⟩⟩⟩⟩⟩⟩⟩⟩⟩⟩⟩⟩⟩⟩⟩⟩⟩
def zputi_RX12 : List (Nat × Nat × Nat) := [(12, 0, 113), (12, 3, 120), (12, 8, 161), (12, 10, 291), (12, 11, 275), (12, 12, 31), (12, 14, 123), (12, 16, 110), (12, 17, 107), (12, 19, 129), (12, 20, 132), (12, 21, 135), (12, 22, 138), (12, 25, 219), (12, 26, 48), (12, 27, 202), (12, 30, 249), (12, 33, 186), (12, 38, 312), (12, 39, 303), (12, 40, 306), (12, 43, 354), (12, 48, 363), (12, 49, 366), (12, 52, 183)]
theorem zputi_RX12_0 : zPuti RX12 (12, 0, 113) := fun hd hn => sn_puti (C := RX12) (T := TX12) (N := 56) (idx := 113) rfl pin12 (by decide) (by decide) rfl tyX12 tyX12_ok nmX12 rfl rfl (by decide +kernel) (pmt6 140 rfl (by decide +kernel)) rfl hd hn
theorem zputi_RX12_1 : zPuti RX12 (12, 3, 120) := fun hd hn => sn_puti (C := RX12) (T := TX12) (N := 56) (idx := 120) rfl pin12 (by decide) (by decide) rfl tyX12 tyX12_ok nmX12 rfl rfl (by decide +kernel) (pmt6 143 rfl (by decide +kernel)) rfl hd hn
theorem zputi_RX12_2 : zPuti RX12 (12, 8, 161) := fun hd hn => sn_puti (C := RX12) (T := TX12) (N := 56) (idx := 161) rfl pin12 (by decide) (by decide) rfl tyX12 tyX12_ok nmX12 rfl rfl (by decide +kernel) (pmt6 148 rfl (by decide +kernel)) rfl hd hn
theorem zputi_RX12_3 : zPuti RX12 (12, 10, 291) := fun hd hn => sn_puti (C := RX12) (T := TX12) (N := 56) (idx := 291) rfl pin12 (by decide) (by decide) rfl tyX12 tyX12_ok nmX12 rfl rfl (by decide +kernel) (pmt6 150 rfl (by decide +kernel)) rfl hd hn
theorem zputi_RX12_4 : zPuti RX12 (12, 11, 275) := fun hd hn => sn_puti (C := RX12) (T := TX12) (N := 56) (idx := 275) rfl pin12 (by decide) (by decide) rfl tyX12 tyX12_ok nmX12 rfl rfl (by decide +kernel) (pmt6 151 rfl (by decide +kernel)) rfl hd hn
theorem zputi_RX12_5 : zPuti RX12 (12, 12, 31) := fun hd hn => sn_puti (C := RX12) (T := TX12) (N := 56) (idx := 31) rfl pin12 (by decide) (by decide) rfl tyX12 tyX12_ok nmX12 rfl rfl (by decide +kernel) (pmt6 152 rfl (by decide +kernel)) rfl hd hn
theorem zputi_RX12_6 : zPuti RX12 (12, 14, 123) := fun hd hn => sn_puti (C := RX12) (T := TX12) (N := 56) (idx := 123) rfl pin12 (by decide) (by decide) rfl tyX12 tyX12_ok nmX12 rfl rfl (by decide +kernel) (pmt6 154 rfl (by decide +kernel)) rfl hd hn
theorem zputi_RX12_7 : zPuti RX12 (12, 16, 110) := fun hd hn => sn_puti (C := RX12) (T := TX12) (N := 56) (idx := 110) rfl pin12 (by decide) (by decide) rfl tyX12 tyX12_ok nmX12 rfl rfl (by decide +kernel) (pmt6 156 rfl (by decide +kernel)) rfl hd hn
theorem zputi_RX12_8 : zPuti RX12 (12, 17, 107) := fun hd hn => sn_puti (C := RX12) (T := TX12) (N := 56) (idx := 107) rfl pin12 (by decide) (by decide) rfl tyX12 tyX12_ok nmX12 rfl rfl (by decide +kernel) (pmt6 157 rfl (by decide +kernel)) rfl hd hn
theorem zputi_RX12_9 : zPuti RX12 (12, 19, 129) := fun hd hn => sn_puti (C := RX12) (T := TX12) (N := 56) (idx := 129) rfl pin12 (by decide) (by decide) rfl tyX12 tyX12_ok nmX12 rfl rfl (by decide +kernel) (pmt6 159 rfl (by decide +kernel)) rfl hd hn
theorem zputi_RX12_10 : zPuti RX12 (12, 20, 132) := fun hd hn => sn_puti (C := RX12) (T := TX12) (N := 56) (idx := 132) rfl pin12 (by decide) (by decide) rfl tyX12 tyX12_ok nmX12 rfl rfl (by decide +kernel) (pmt6 160 rfl (by decide +kernel)) rfl hd hn
theorem zputi_RX12_11 : zPuti RX12 (12, 21, 135) := fun hd hn => sn_puti (C := RX12) (T := TX12) (N := 56) (idx := 135) rfl pin12 (by decide) (by decide) rfl tyX12 tyX12_ok nmX12 rfl rfl (by decide +kernel) (pmt6 161 rfl (by decide +kernel)) rfl hd hn
theorem zputi_RX12_12 : zPuti RX12 (12, 22, 138) := fun hd hn => sn_puti (C := RX12) (T := TX12) (N := 56) (idx := 138) rfl pin12 (by decide) (by decide) rfl tyX12 tyX12_ok nmX12 rfl rfl (by decide +kernel) (pmt6 162 rfl (by decide +kernel)) rfl hd hn
theorem zputi_RX12_13 : zPuti RX12 (12, 25, 219) := fun hd hn => sn_puti (C := RX12) (T := TX12) (N := 56) (idx := 219) rfl pin12 (by decide) (by decide) rfl tyX12 tyX12_ok nmX12 rfl rfl (by decide +kernel) (pmt6 165 rfl (by decide +kernel)) rfl hd hn
theorem zputi_RX12_14 : zPuti RX12 (12, 26, 48) := fun hd hn => sn_puti (C := RX12) (T := TX12) (N := 56) (idx := 48) rfl pin12 (by decide) (by decide) rfl tyX12 tyX12_ok nmX12 rfl rfl (by decide +kernel) (pmt6 166 rfl (by decide +kernel)) rfl hd hn
theorem zputi_RX12_15 : zPuti RX12 (12, 27, 202) := fun hd hn => sn_puti (C := RX12) (T := TX12) (N := 56) (idx := 202) rfl pin12 (by decide) (by decide) rfl tyX12 tyX12_ok nmX12 rfl rfl (by decide +kernel) (pmt6 167 rfl (by decide +kernel)) rfl hd hn
theorem zputi_RX12_16 : zPuti RX12 (12, 30, 249) := fun hd hn => sn_puti (C := RX12) (T := TX12) (N := 56) (idx := 249) rfl pin12 (by decide) (by decide) rfl tyX12 tyX12_ok nmX12 rfl rfl (by decide +kernel) (pmt6 170 rfl (by decide +kernel)) rfl hd hn
theorem zputi_RX12_17 : zPuti RX12 (12, 33, 186) := fun hd hn => sn_puti (C := RX12) (T := TX12) (N := 56) (idx := 186) rfl pin12 (by decide) (by decide) rfl tyX12 tyX12_ok nmX12 rfl rfl (by decide +kernel) (pmt6 173 rfl (by decide +kernel)) rfl hd hn
theorem zputi_RX12_18 : zPuti RX12 (12, 38, 312) := fun hd hn => sn_puti (C := RX12) (T := TX12) (N := 56) (idx := 312) rfl pin12 (by decide) (by decide) rfl tyX12 tyX12_ok nmX12 rfl rfl (by decide +kernel) (pmt6 178 rfl (by decide +kernel)) rfl hd hn
theorem zputi_RX12_19 : zPuti RX12 (12, 39, 303) := fun hd hn => sn_puti (C := RX12) (T := TX12) (N := 56) (idx := 303) rfl pin12 (by decide) (by decide) rfl tyX12 tyX12_ok nmX12 rfl rfl (by decide +kernel) (pmt6 179 rfl (by decide +kernel)) rfl hd hn
theorem zputi_RX12_20 : zPuti RX12 (12, 40, 306) := fun hd hn => sn_puti (C := RX12) (T := TX12) (N := 56) (idx := 306) rfl pin12 (by decide) (by decide) rfl tyX12 tyX12_ok nmX12 rfl rfl (by decide +kernel) (pmt6 180 rfl (by decide +kernel)) rfl hd hn
theorem zputi_RX12_21 : zPuti RX12 (12, 43, 354) := fun hd hn => sn_puti (C := RX12) (T := TX12) (N := 56) (idx := 354) rfl pin12 (by decide) (by decide) rfl tyX12 tyX12_ok nmX12 rfl rfl (by decide +kernel) (pmt6 183 rfl (by decide +kernel)) rfl hd hn
theorem zputi_RX12_22 : zPuti RX12 (12, 48, 363) := fun hd hn => sn_puti (C := RX12) (T := TX12) (N := 56) (idx := 363) rfl pin12 (by decide) (by decide) rfl tyX12 tyX12_ok nmX12 rfl rfl (by decide +kernel) (pmt6 188 rfl (by decide +kernel)) rfl hd hn
theorem zputi_RX12_23 : zPuti RX12 (12, 49, 366) := fun hd hn => sn_puti (C := RX12) (T := TX12) (N := 56) (idx := 366) rfl pin12 (by decide) (by decide) rfl tyX12 tyX12_ok nmX12 rfl rfl (by decide +kernel) (pmt6 189 rfl (by decide +kernel)) rfl hd hn
theorem zputi_RX12_24 : zPuti RX12 (12, 52, 183) := fun hd hn => sn_puti (C := RX12) (T := TX12) (N := 56) (idx := 183) rfl pin12 (by decide) (by decide) rfl tyX12 tyX12_ok nmX12 rfl rfl (by decide +kernel) (pmt6 192 rfl (by decide +kernel)) rfl hd hn
theorem zputi_RX12_ok : ∀ q ∈ zputi_RX12, zPuti RX12 q := List.forall_mem_cons.mpr ⟨zputi_RX12_0, List.forall_mem_cons.mpr ⟨zputi_RX12_1, List.forall_mem_cons.mpr ⟨zputi_RX12_2, List.forall_mem_cons.mpr ⟨zputi_RX12_3, List.forall_mem_cons.mpr ⟨zputi_RX12_4, List.forall_mem_cons.mpr ⟨zputi_RX12_5, List.forall_mem_cons.mpr ⟨zputi_RX12_6, List.forall_mem_cons.mpr ⟨zputi_RX12_7, List.forall_mem_cons.mpr ⟨zputi_RX12_8, List.forall_mem_cons.mpr ⟨zputi_RX12_9, List.forall_mem_cons.mpr ⟨zputi_RX12_10, List.forall_mem_cons.mpr ⟨zputi_RX12_11, List.forall_mem_cons.mpr ⟨zputi_RX12_12, List.forall_mem_cons.mpr ⟨zputi_RX12_13, List.forall_mem_cons.mpr ⟨zputi_RX12_14, List.forall_mem_cons.mpr ⟨zputi_RX12_15, List.forall_mem_cons.mpr ⟨zputi_RX12_16, List.forall_mem_cons.mpr ⟨zputi_RX12_17, List.forall_mem_cons.mpr ⟨zputi_RX12_18, List.forall_mem_cons.mpr ⟨zputi_RX12_19, List.forall_mem_cons.mpr ⟨zputi_RX12_20, List.forall_mem_cons.mpr ⟨zputi_RX12_21, List.forall_mem_cons.mpr ⟨zputi_RX12_22, List.forall_mem_cons.mpr ⟨zputi_RX12_23, List.forall_mem_cons.mpr ⟨zputi_RX12_24, fun _ h => absurd h List.not_mem_nil⟩⟩⟩⟩⟩⟩⟩⟩⟩⟩⟩⟩⟩⟩⟩⟩⟩⟩⟩⟩⟩⟩⟩⟩⟩
def zcallV_RX12 : List (Nat × Nat × Nat × Nat × Nat) := [(0, 12, 172, 1, 294), (0, 12, 177, 3, 157), (0, 12, 180, 1, 153), (0, 12, 182, 1, 168), (0, 12, 185, 3, 179), (0, 12, 186, 2, 176), (0, 12, 187, 2, 172), (0, 12, 200, 2, 255), (0, 12, 207, 2, 259), (0, 12, 215, 1, 281), (0, 12, 229, 0, 318), (0, 12, 232, 1, 327), (0, 12, 233, 0, 324), (0, 12, 262, 1, 375), (1, 12, 171, 0, 242), (1, 12, 173, 1, 238), (1, 12, 174, 1, 252), (1, 12, 178, 0, 145), (1, 12, 179, 0, 141), (1, 12, 181, 1, 149), (1, 12, 183, 3, 164), (1, 12, 188, 1, 199), (1, 12, 189, 1, 189), (1, 12, 190, 1, 193), (1, 12, 191, 1, 196), (1, 12, 192, 3, 205), (1, 12, 194, 2, 231), (1, 12, 195, 1, 331), (1, 12, 196, 1, 208), (1, 12, 197, 1, 216), (1, 12, 198, 2, 245), (1, 12, 208, 3, 262), (1, 12, 209, 4, 334), (1, 12, 210, 1, 268), (1, 12, 211, 1, 272), (1, 12, 212, 1, 287), (1, 12, 213, 2, 278), (1, 12, 214, 2, 284), (1, 12, 217, 0, 297), (1, 12, 223, 1, 300), (1, 12, 228, 0, 315), (1, 12, 230, 0, 321), (1, 12, 231, 0, 309), (1, 12, 237, 2, 338), (1, 12, 247, 2, 341), (1, 12, 249, 2, 344), (1, 12, 253, 1, 347), (1, 12, 256, 0, 357), (1, 12, 258, 1, 360), (1, 12, 260, 0, 372), (1, 12, 261, 0, 369), (1, 12, 265, 1, 378)]
theorem zcallV_RX12_0 : zCallV RX12 (0, 12, 172, 1, 294) := fun hd hn => sn_callV (idx := 294) (C := RX12) (T := TX12) (N := 56) rfl (by decide) cal_172 (pmt8 12 rfl (by decide +kernel)) (pmt8 14 rfl (by decide +kernel)) (pms 73 rfl rfl) hd hn
theorem zcallV_RX12_1 : zCallV RX12 (0, 12, 177, 3, 157) := fun hd hn => sn_callV (idx := 157) (C := RX12) (T := TX12) (N := 56) rfl (by decide) cal_177 (pmt7 84 rfl (by decide +kernel)) (pmt7 86 rfl (by decide +kernel)) (pms 43 rfl rfl) hd hn
theorem zcallV_RX12_2 : zCallV RX12 (0, 12, 180, 1, 153) := fun hd hn => sn_callV (idx := 153) (C := RX12) (T := TX12) (N := 56) rfl (by decide) cal_180 (pmt7 96 rfl (by decide +kernel)) (pmt7 98 rfl (by decide +kernel)) (pms 46 rfl rfl) hd hn
theorem zcallV_RX12_3 : zCallV RX12 (0, 12, 182, 1, 168) := fun hd hn => sn_callV (idx := 168) (C := RX12) (T := TX12) (N := 56) rfl (by decide) cal_182 (pmt7 104 rfl (by decide +kernel)) (pmt7 106 rfl (by decide +kernel)) (pms 48 rfl rfl) hd hn
theorem zcallV_RX12_4 : zCallV RX12 (0, 12, 185, 3, 179) := fun hd hn => sn_callV (idx := 179) (C := RX12) (T := TX12) (N := 56) rfl (by decide) cal_185 (pmt7 120 rfl (by decide +kernel)) (pmt7 122 rfl (by decide +kernel)) (pms 52 rfl rfl) hd hn
theorem zcallV_RX12_5 : zCallV RX12 (0, 12, 186, 2, 176) := fun hd hn => sn_callV (idx := 176) (C := RX12) (T := TX12) (N := 56) rfl (by decide) cal_186 (pmt7 116 rfl (by decide +kernel)) (pmt7 118 rfl (by decide +kernel)) (pms 51 rfl rfl) hd hn
theorem zcallV_RX12_6 : zCallV RX12 (0, 12, 187, 2, 172) := fun hd hn => sn_callV (idx := 172) (C := RX12) (T := TX12) (N := 56) rfl (by decide) cal_187 (pmt7 112 rfl (by decide +kernel)) (pmt7 114 rfl (by decide +kernel)) (pms 50 rfl rfl) hd hn
theorem zcallV_RX12_7 : zCallV RX12 (0, 12, 200, 2, 255) := fun hd hn => sn_callV (idx := 255) (C := RX12) (T := TX12) (N := 56) rfl (by decide) cal_200 (pmt7 184 rfl (by decide +kernel)) (pmt7 186 rfl (by decide +kernel)) (pms 64 rfl rfl) hd hn
theorem zcallV_RX12_8 : zCallV RX12 (0, 12, 207, 2, 259) := fun hd hn => sn_callV (idx := 259) (C := RX12) (T := TX12) (N := 56) rfl (by decide) cal_207 (pmt7 226 rfl (by decide +kernel)) (pmt7 228 rfl (by decide +kernel)) (pms 68 rfl rfl) hd hn
theorem zcallV_RX12_9 : zCallV RX12 (0, 12, 215, 1, 281) := fun hd hn => sn_callV (idx := 281) (C := RX12) (T := TX12) (N := 56) rfl (by decide) cal_215 (pmt7 231 rfl (by decide +kernel)) (pmt7 233 rfl (by decide +kernel)) (pms 69 rfl rfl) hd hn
theorem zcallV_RX12_10 : zCallV RX12 (0, 12, 229, 0, 318) := fun hd hn => sn_callV (idx := 318) (C := RX12) (T := TX12) (N := 56) rfl (by decide) cal_229 (pmt8 68 rfl (by decide +kernel)) (pmt8 70 rfl (by decide +kernel)) (pms 78 rfl rfl) hd hn
theorem zcallV_RX12_11 : zCallV RX12 (0, 12, 232, 1, 327) := fun hd hn => sn_callV (idx := 327) (C := RX12) (T := TX12) (N := 56) rfl (by decide) cal_232 (pmt8 84 rfl (by decide +kernel)) (pmt8 86 rfl (by decide +kernel)) (pms 82 rfl rfl) hd hn
theorem zcallV_RX12_12 : zCallV RX12 (0, 12, 233, 0, 324) := fun hd hn => sn_callV (idx := 324) (C := RX12) (T := TX12) (N := 56) rfl (by decide) cal_233 (pmt8 80 rfl (by decide +kernel)) (pmt8 82 rfl (by decide +kernel)) (pms 81 rfl rfl) hd hn
theorem zcallV_RX12_13 : zCallV RX12 (0, 12, 262, 1, 375) := fun hd hn => sn_callV (idx := 375) (C := RX12) (T := TX12) (N := 56) rfl (by decide) cal_262 (pmt8 208 rfl (by decide +kernel)) (pmt8 210 rfl (by decide +kernel)) (pms 93 rfl rfl) hd hn
theorem zcallV_RX12_14 : zCallV RX12 (1, 12, 171, 0, 242) := fun hd hn => sn_callV (idx := 242) (C := RX12) (T := TX12) (N := 56) rfl (by decide) cal_171 (pmt7 168 rfl (by decide +kernel)) (pmt7 170 rfl (by decide +kernel)) (pms 61 rfl rfl) hd hn
theorem zcallV_RX12_15 : zCallV RX12 (1, 12, 173, 1, 238) := fun hd hn => sn_callV (idx := 238) (C := RX12) (T := TX12) (N := 56) rfl (by decide) cal_173 (pmt7 164 rfl (by decide +kernel)) (pmt7 166 rfl (by decide +kernel)) (pms 60 rfl rfl) hd hn
theorem zcallV_RX12_16 : zCallV RX12 (1, 12, 174, 1, 252) := fun hd hn => sn_callV (idx := 252) (C := RX12) (T := TX12) (N := 56) rfl (by decide) cal_174 (pmt7 180 rfl (by decide +kernel)) (pmt7 182 rfl (by decide +kernel)) (pms 63 rfl rfl) hd hn
theorem zcallV_RX12_17 : zCallV RX12 (1, 12, 178, 0, 145) := fun hd hn => sn_callV (idx := 145) (C := RX12) (T := TX12) (N := 56) rfl (by decide) cal_178 (pmt7 92 rfl (by decide +kernel)) (pmt7 94 rfl (by decide +kernel)) (pms 45 rfl rfl) hd hn
theorem zcallV_RX12_18 : zCallV RX12 (1, 12, 179, 0, 141) := fun hd hn => sn_callV (idx := 141) (C := RX12) (T := TX12) (N := 56) rfl (by decide) cal_179 (pmt7 88 rfl (by decide +kernel)) (pmt7 90 rfl (by decide +kernel)) (pms 44 rfl rfl) hd hn
theorem zcallV_RX12_19 : zCallV RX12 (1, 12, 181, 1, 149) := fun hd hn => sn_callV (idx := 149) (C := RX12) (T := TX12) (N := 56) rfl (by decide) cal_181 (pmt7 108 rfl (by decide +kernel)) (pmt7 110 rfl (by decide +kernel)) (pms 49 rfl rfl) hd hn
theorem zcallV_RX12_20 : zCallV RX12 (1, 12, 183, 3, 164) := fun hd hn => sn_callV (idx := 164) (C := RX12) (T := TX12) (N := 56) rfl (by decide) cal_183 (pmt7 100 rfl (by decide +kernel)) (pmt7 102 rfl (by decide +kernel)) (pms 47 rfl rfl) hd hn
theorem zcallV_RX12_21 : zCallV RX12 (1, 12, 188, 1, 199) := fun hd hn => sn_callV (idx := 199) (C := RX12) (T := TX12) (N := 56) rfl (by decide) cal_188 (pmt7 128 rfl (by decide +kernel)) (pmt7 130 rfl (by decide +kernel)) (pms 53 rfl rfl) hd hn
theorem zcallV_RX12_22 : zCallV RX12 (1, 12, 189, 1, 189) := fun hd hn => sn_callV (idx := 189) (C := RX12) (T := TX12) (N := 56) rfl (by decide) cal_189 (pmt7 132 rfl (by decide +kernel)) (pmt7 134 rfl (by decide +kernel)) (pms 54 rfl rfl) hd hn
theorem zcallV_RX12_23 : zCallV RX12 (1, 12, 190, 1, 193) := fun hd hn => sn_callV (idx := 193) (C := RX12) (T := TX12) (N := 56) rfl (by decide) cal_190 (pmt7 136 rfl (by decide +kernel)) (pmt7 138 rfl (by decide +kernel)) (pms 55 rfl rfl) hd hn
theorem zcallV_RX12_24 : zCallV RX12 (1, 12, 191, 1, 196) := fun hd hn => sn_callV (idx := 196) (C := RX12) (T := TX12) (N := 56) rfl (by decide) cal_191 (pmt7 140 rfl (by decide +kernel)) (pmt7 142 rfl (by decide +kernel)) (pms 56 rfl rfl) hd hn
theorem zcallV_RX12_25 : zCallV RX12 (1, 12, 192, 3, 205) := fun hd hn => sn_callV (idx := 205) (C := RX12) (T := TX12) (N := 56) rfl (by decide) cal_192 (pmt7 144 rfl (by decide +kernel)) (pmt7 146 rfl (by decide +kernel)) (pms 57 rfl rfl) hd hn
theorem zcallV_RX12_26 : zCallV RX12 (1, 12, 194, 2, 231) := fun hd hn => sn_callV (idx := 231) (C := RX12) (T := TX12) (N := 56) rfl (by decide) cal_194 (pmt7 188 rfl (by decide +kernel)) (pmt7 190 rfl (by decide +kernel)) (pms 65 rfl rfl) hd hn
theorem zcallV_RX12_27 : zCallV RX12 (1, 12, 195, 1, 331) := fun hd hn => sn_callV (idx := 331) (C := RX12) (T := TX12) (N := 56) rfl (by decide) cal_195 (pmt8 92 rfl (by decide +kernel)) (pmt8 94 rfl (by decide +kernel)) (pms 83 rfl rfl) hd hn
theorem zcallV_RX12_28 : zCallV RX12 (1, 12, 196, 1, 208) := fun hd hn => sn_callV (idx := 208) (C := RX12) (T := TX12) (N := 56) rfl (by decide) cal_196 (pmt7 148 rfl (by decide +kernel)) (pmt7 150 rfl (by decide +kernel)) (pms 58 rfl rfl) hd hn
theorem zcallV_RX12_29 : zCallV RX12 (1, 12, 197, 1, 216) := fun hd hn => sn_callV (idx := 216) (C := RX12) (T := TX12) (N := 56) rfl (by decide) cal_197 (pmt7 156 rfl (by decide +kernel)) (pmt7 158 rfl (by decide +kernel)) (pms 59 rfl rfl) hd hn
theorem zcallV_RX12_30 : zCallV RX12 (1, 12, 198, 2, 245) := fun hd hn => sn_callV (idx := 245) (C := RX12) (T := TX12) (N := 56) rfl (by decide) cal_198 (pmt7 172 rfl (by decide +kernel)) (pmt7 174 rfl (by decide +kernel)) (pms 62 rfl rfl) hd hn
theorem zcallV_RX12_31 : zCallV RX12 (1, 12, 208, 3, 262) := fun hd hn => sn_callV (idx := 262) (C := RX12) (T := TX12) (N := 56) rfl (by decide) cal_208 (pmt7 222 rfl (by decide +kernel)) (pmt7 224 rfl (by decide +kernel)) (pms 67 rfl rfl) hd hn
theorem zcallV_RX12_32 : zCallV RX12 (1, 12, 209, 4, 334) := fun hd hn => sn_callV (idx := 334) (C := RX12) (T := TX12) (N := 56) rfl (by decide) cal_209 (pmt8 108 rfl (by decide +kernel)) (pmt8 110 rfl (by decide +kernel)) (pms 85 rfl rfl) hd hn
theorem zcallV_RX12_33 : zCallV RX12 (1, 12, 210, 1, 268) := fun hd hn => sn_callV (idx := 268) (C := RX12) (T := TX12) (N := 56) rfl (by decide) cal_210 (pmt8 3 rfl (by decide +kernel)) (pmt8 5 rfl (by decide +kernel)) (pms 71 rfl rfl) hd hn
theorem zcallV_RX12_34 : zCallV RX12 (1, 12, 211, 1, 272) := fun hd hn => sn_callV (idx := 272) (C := RX12) (T := TX12) (N := 56) rfl (by decide) cal_211 (pmt8 8 rfl (by decide +kernel)) (pmt8 10 rfl (by decide +kernel)) (pms 72 rfl rfl) hd hn
theorem zcallV_RX12_35 : zCallV RX12 (1, 12, 212, 1, 287) := fun hd hn => sn_callV (idx := 287) (C := RX12) (T := TX12) (N := 56) rfl (by decide) cal_212 (pmt8 20 rfl (by decide +kernel)) (pmt8 22 rfl (by decide +kernel)) (pms 75 rfl rfl) hd hn
theorem zcallV_RX12_36 : zCallV RX12 (1, 12, 213, 2, 278) := fun hd hn => sn_callV (idx := 278) (C := RX12) (T := TX12) (N := 56) rfl (by decide) cal_213 (pmt7 218 rfl (by decide +kernel)) (pmt7 220 rfl (by decide +kernel)) (pms 66 rfl rfl) hd hn
theorem zcallV_RX12_37 : zCallV RX12 (1, 12, 214, 2, 284) := fun hd hn => sn_callV (idx := 284) (C := RX12) (T := TX12) (N := 56) rfl (by decide) cal_214 (pmt7 235 rfl (by decide +kernel)) (pmt7 237 rfl (by decide +kernel)) (pms 70 rfl rfl) hd hn
theorem zcallV_RX12_38 : zCallV RX12 (1, 12, 217, 0, 297) := fun hd hn => sn_callV (idx := 297) (C := RX12) (T := TX12) (N := 56) rfl (by decide) cal_217 (pmt8 16 rfl (by decide +kernel)) (pmt8 18 rfl (by decide +kernel)) (pms 74 rfl rfl) hd hn
theorem zcallV_RX12_39 : zCallV RX12 (1, 12, 223, 1, 300) := fun hd hn => sn_callV (idx := 300) (C := RX12) (T := TX12) (N := 56) rfl (by decide) cal_223 (pmt8 44 rfl (by decide +kernel)) (pmt8 46 rfl (by decide +kernel)) (pms 76 rfl rfl) hd hn
theorem zcallV_RX12_40 : zCallV RX12 (1, 12, 228, 0, 315) := fun hd hn => sn_callV (idx := 315) (C := RX12) (T := TX12) (N := 56) rfl (by decide) cal_228 (pmt8 64 rfl (by decide +kernel)) (pmt8 66 rfl (by decide +kernel)) (pms 77 rfl rfl) hd hn
theorem zcallV_RX12_41 : zCallV RX12 (1, 12, 230, 0, 321) := fun hd hn => sn_callV (idx := 321) (C := RX12) (T := TX12) (N := 56) rfl (by decide) cal_230 (pmt8 72 rfl (by decide +kernel)) (pmt8 74 rfl (by decide +kernel)) (pms 79 rfl rfl) hd hn
theorem zcallV_RX12_42 : zCallV RX12 (1, 12, 231, 0, 309) := fun hd hn => sn_callV (idx := 309) (C := RX12) (T := TX12) (N := 56) rfl (by decide) cal_231 (pmt8 76 rfl (by decide +kernel)) (pmt8 78 rfl (by decide +kernel)) (pms 80 rfl rfl) hd hn
theorem zcallV_RX12_43 : zCallV RX12 (1, 12, 237, 2, 338) := fun hd hn => sn_callV (idx := 338) (C := RX12) (T := TX12) (N := 56) rfl (by decide) cal_237 (pmt8 104 rfl (by decide +kernel)) (pmt8 106 rfl (by decide +kernel)) (pms 84 rfl rfl) hd hn
theorem zcallV_RX12_44 : zCallV RX12 (1, 12, 247, 2, 341) := fun hd hn => sn_callV (idx := 341) (C := RX12) (T := TX12) (N := 56) rfl (by decide) cal_247 (pmt8 144 rfl (by decide +kernel)) (pmt8 146 rfl (by decide +kernel)) (pms 86 rfl rfl) hd hn
theorem zcallV_RX12_45 : zCallV RX12 (1, 12, 249, 2, 344) := fun hd hn => sn_callV (idx := 344) (C := RX12) (T := TX12) (N := 56) rfl (by decide) cal_249 (pmt8 152 rfl (by decide +kernel)) (pmt8 154 rfl (by decide +kernel)) (pms 87 rfl rfl) hd hn
theorem zcallV_RX12_46 : zCallV RX12 (1, 12, 253, 1, 347) := fun hd hn => sn_callV (idx := 347) (C := RX12) (T := TX12) (N := 56) rfl (by decide) cal_253 (pmt8 172 rfl (by decide +kernel)) (pmt8 174 rfl (by decide +kernel)) (pms 88 rfl rfl) hd hn
theorem zcallV_RX12_47 : zCallV RX12 (1, 12, 256, 0, 357) := fun hd hn => sn_callV (idx := 357) (C := RX12) (T := TX12) (N := 56) rfl (by decide) cal_256 (pmt8 184 rfl (by decide +kernel)) (pmt8 186 rfl (by decide +kernel)) (pms 89 rfl rfl) hd hn
theorem zcallV_RX12_48 : zCallV RX12 (1, 12, 258, 1, 360) := fun hd hn => sn_callV (idx := 360) (C := RX12) (T := TX12) (N := 56) rfl (by decide) cal_258 (pmt8 192 rfl (by decide +kernel)) (pmt8 194 rfl (by decide +kernel)) (pms 90 rfl rfl) hd hn
theorem zcallV_RX12_49 : zCallV RX12 (1, 12, 260, 0, 372) := fun hd hn => sn_callV (idx := 372) (C := RX12) (T := TX12) (N := 56) rfl (by decide) cal_260 (pmt8 204 rfl (by decide +kernel)) (pmt8 206 rfl (by decide +kernel)) (pms 92 rfl rfl) hd hn
theorem zcallV_RX12_50 : zCallV RX12 (1, 12, 261, 0, 369) := fun hd hn => sn_callV (idx := 369) (C := RX12) (T := TX12) (N := 56) rfl (by decide) cal_261 (pmt8 200 rfl (by decide +kernel)) (pmt8 202 rfl (by decide +kernel)) (pms 91 rfl rfl) hd hn
theorem zcallV_RX12_51 : zCallV RX12 (1, 12, 265, 1, 378) := fun hd hn => sn_callV (idx := 378) (C := RX12) (T := TX12) (N := 56) rfl (by decide) cal_265 (pmt8 216 rfl (by decide +kernel)) (pmt8 218 rfl (by decide +kernel)) (pms 94 rfl rfl) hd hn
theorem zcallV_RX12_ok : ∀ q ∈ zcallV_RX12, zCallV RX12 q := List.forall_mem_cons.mpr ⟨zcallV_RX12_0, List.forall_mem_cons.mpr ⟨zcallV_RX12_1, List.forall_mem_cons.mpr ⟨zcallV_RX12_2, List.forall_mem_cons.mpr ⟨zcallV_RX12_3, List.forall_mem_cons.mpr ⟨zcallV_RX12_4, List.forall_mem_cons.mpr ⟨zcallV_RX12_5, List.forall_mem_cons.mpr ⟨zcallV_RX12_6, List.forall_mem_cons.mpr ⟨zcallV_RX12_7, List.forall_mem_cons.mpr ⟨zcallV_RX12_8, List.forall_mem_cons.mpr ⟨zcallV_RX12_9, List.forall_mem_cons.mpr ⟨zcallV_RX12_10, List.forall_mem_cons.mpr ⟨zcallV_RX12_11, List.forall_mem_cons.mpr ⟨zcallV_RX12_12, List.forall_mem_cons.mpr ⟨zcallV_RX12_13, List.forall_mem_cons.mpr ⟨zcallV_RX12_14, List.forall_mem_cons.mpr ⟨zcallV_RX12_15, List.forall_mem_cons.mpr ⟨zcallV_RX12_16, List.forall_mem_cons.mpr ⟨zcallV_RX12_17, List.forall_mem_cons.mpr ⟨zcallV_RX12_18, List.forall_mem_cons.mpr ⟨zcallV_RX12_19, List.forall_mem_cons.mpr ⟨zcallV_RX12_20, List.forall_mem_cons.mpr ⟨zcallV_RX12_21, List.forall_mem_cons.mpr ⟨zcallV_RX12_22, List.forall_mem_cons.mpr ⟨zcallV_RX12_23, List.forall_mem_cons.mpr ⟨zcallV_RX12_24, List.forall_mem_cons.mpr ⟨zcallV_RX12_25, List.forall_mem_cons.mpr ⟨zcallV_RX12_26, List.forall_mem_cons.mpr ⟨zcallV_RX12_27, List.forall_mem_cons.mpr ⟨zcallV_RX12_28, List.forall_mem_cons.mpr ⟨zcallV_RX12_29, List.forall_mem_cons.mpr ⟨zcallV_RX12_30, List.forall_mem_cons.mpr ⟨zcallV_RX12_31, List.forall_mem_cons.mpr ⟨zcallV_RX12_32, List.forall_mem_cons.mpr ⟨zcallV_RX12_33, List.forall_mem_cons.mpr ⟨zcallV_RX12_34, List.forall_mem_cons.mpr ⟨zcallV_RX12_35, List.forall_mem_cons.mpr ⟨zcallV_RX12_36, List.forall_mem_cons.mpr ⟨zcallV_RX12_37, List.forall_mem_cons.mpr ⟨zcallV_RX12_38, List.forall_mem_cons.mpr ⟨zcallV_RX12_39, List.forall_mem_cons.mpr ⟨zcallV_RX12_40, List.forall_mem_cons.mpr ⟨zcallV_RX12_41, List.forall_mem_cons.mpr ⟨zcallV_RX12_42, List.forall_mem_cons.mpr ⟨zcallV_RX12_43, List.forall_mem_cons.mpr ⟨zcallV_RX12_44, List.forall_mem_cons.mpr ⟨zcallV_RX12_45, List.forall_mem_cons.mpr ⟨zcallV_RX12_46, List.forall_mem_cons.mpr ⟨zcallV_RX12_47, List.forall_mem_cons.mpr ⟨zcallV_RX12_48, List.forall_mem_cons.mpr ⟨zcallV_RX12_49, List.forall_mem_cons.mpr ⟨zcallV_RX12_50, List.forall_mem_cons.mpr ⟨zcallV_RX12_51, fun _ h => absurd h List.not_mem_nil⟩⟩⟩⟩⟩⟩⟩⟩⟩⟩⟩⟩⟩⟩⟩⟩⟩⟩⟩⟩⟩⟩⟩⟩⟩⟩⟩⟩⟩⟩⟩⟩⟩⟩⟩⟩⟩⟩⟩⟩⟩⟩⟩⟩⟩⟩⟩⟩⟩⟩⟩⟩
def zgetf_RX2 : List (Nat × Nat × Nat) := [(0, 5, 92), (0, 8, 77), (0, 10, 74), (0, 12, 27), (2, 0, 11), (2, 1, 15), (2, 2, 18), (2, 3, 21), (2, 4, 24), (2, 5, 34), (2, 6, 33), (2, 7, 63), (2, 9, 98), (10, 3, 52)]
theorem zgetf_RX2_0 : zGetf RX2 (0, 5, 92) := fun hd hn => sn_getf (C := RX0) (T := TX0) (N := 13) (idx := 92) rfl pin0 (by decide) (by decide) rfl (pmt1 124 rfl (by decide +kernel)) rfl hd hn
theorem zgetf_RX2_1 : zGetf RX2 (0, 8, 77) := fun hd hn => sn_getf (C := RX0) (T := TX0) (N := 13) (idx := 77) rfl pin0 (by decide) (by decide) rfl (pmt1 131 rfl (by decide +kernel)) rfl hd hn
theorem zgetf_RX2_2 : zGetf RX2 (0, 10, 74) := fun hd hn => sn_getf (C := RX0) (T := TX0) (N := 13) (idx := 74) rfl pin0 (by decide) (by decide) rfl (pmt1 142 rfl (by decide +kernel)) rfl hd hn
theorem zgetf_RX2_3 : zGetf RX2 (0, 12, 27) := fun hd hn => sn_getf (C := RX0) (T := TX0) (N := 13) (idx := 27) rfl pin0 (by decide) (by decide) rfl (pmt1 147 rfl (by decide +kernel)) rfl hd hn
theorem zgetf_RX2_4 : zGetf RX2 (2, 0, 11) := fun hd hn => sn_getf (C := RX2) (T := TX2) (N := 10) (idx := 11) rfl pin2 (by decide) (by decide) rfl (pmt2 87 rfl (by decide +kernel)) rfl hd hn
theorem zgetf_RX2_5 : zGetf RX2 (2, 1, 15) := fun hd hn => sn_getf (C := RX2) (T := TX2) (N := 10) (idx := 15) rfl pin2 (by decide) (by decide) rfl (pmt2 88 rfl (by decide +kernel)) rfl hd hn
theorem zgetf_RX2_6 : zGetf RX2 (2, 2, 18) := fun hd hn => sn_getf (C := RX2) (T := TX2) (N := 10) (idx := 18) rfl pin2 (by decide) (by decide) rfl (pmt2 89 rfl (by decide +kernel)) rfl hd hn
theorem zgetf_RX2_7 : zGetf RX2 (2, 3, 21) := fun hd hn => sn_getf (C := RX2) (T := TX2) (N := 10) (idx := 21) rfl pin2 (by decide) (by decide) rfl (pmt2 90 rfl (by decide +kernel)) rfl hd hn
theorem zgetf_RX2_8 : zGetf RX2 (2, 4, 24) := fun hd hn => sn_getf (C := RX2) (T := TX2) (N := 10) (idx := 24) rfl pin2 (by decide) (by decide) rfl (pmt2 91 rfl (by decide +kernel)) rfl hd hn
theorem zgetf_RX2_9 : zGetf RX2 (2, 5, 34) := fun hd hn => sn_getf (C := RX2) (T := TX2) (N := 10) (idx := 34) rfl pin2 (by decide) (by decide) rfl (pmt2 92 rfl (by decide +kernel)) rfl hd hn
theorem zgetf_RX2_10 : zGetf RX2 (2, 6, 33) := fun hd hn => sn_getf (C := RX2) (T := TX2) (N := 10) (idx := 33) rfl pin2 (by decide) (by decide) rfl (pmt2 93 rfl (by decide +kernel)) rfl hd hn
theorem zgetf_RX2_11 : zGetf RX2 (2, 7, 63) := fun hd hn => sn_getf (C := RX2) (T := TX2) (N := 10) (idx := 63) rfl pin2 (by decide) (by decide) rfl (pmt2 94 rfl (by decide +kernel)) rfl hd hn
theorem zgetf_RX2_12 : zGetf RX2 (2, 9, 98) := fun hd hn => sn_getf (C := RX2) (T := TX2) (N := 10) (idx := 98) rfl pin2 (by decide) (by decide) rfl (pmt2 97 rfl (by decide +kernel)) rfl hd hn
theorem zgetf_RX2_13 : zGetf RX2 (10, 3, 52) := fun hd hn => sn_getf (C := RX10) (T := TX10) (N := 12) (idx := 52) rfl pin10 (by decide) (by decide) rfl (pmt1 209 rfl (by decide +kernel)) rfl hd hn
theorem zgetf_RX2_ok : ∀ q ∈ zgetf_RX2, zGetf RX2 q := List.forall_mem_cons.mpr ⟨zgetf_RX2_0, List.forall_mem_cons.mpr ⟨zgetf_RX2_1, List.forall_mem_cons.mpr ⟨zgetf_RX2_2, List.forall_mem_cons.mpr ⟨zgetf_RX2_3, List.forall_mem_cons.mpr ⟨zgetf_RX2_4, List.forall_mem_cons.mpr ⟨zgetf_RX2_5, List.forall_mem_cons.mpr ⟨zgetf_RX2_6, List.forall_mem_cons.mpr ⟨zgetf_RX2_7, List.forall_mem_cons.mpr ⟨zgetf_RX2_8, List.forall_mem_cons.mpr ⟨zgetf_RX2_9, List.forall_mem_cons.mpr ⟨zgetf_RX2_10, List.forall_mem_cons.mpr ⟨zgetf_RX2_11, List.forall_mem_cons.mpr ⟨zgetf_RX2_12, List.forall_mem_cons.mpr ⟨zgetf_RX2_13, fun _ h => absurd h List.not_mem_nil⟩⟩⟩⟩⟩⟩⟩⟩⟩⟩⟩⟩⟩⟩
def zputi_RX2 : List (Nat × Nat × Nat) := [(2, 5, 34), (2, 6, 33), (2, 7, 63), (2, 8, 100), (2, 9, 98)]
theorem zputi_RX2_0 : zPuti RX2 (2, 5, 34) := fun hd hn => sn_puti (C := RX2) (T := TX2) (N := 10) (idx := 34) rfl pin2 (by decide) (by decide) rfl tyX2 tyX2_ok nmX2 rfl rfl (by decide +kernel) (pmt2 92 rfl (by decide +kernel)) rfl hd hn
theorem zputi_RX2_1 : zPuti RX2 (2, 6, 33) := fun hd hn => sn_puti (C := RX2) (T := TX2) (N := 10) (idx := 33) rfl pin2 (by decide) (by decide) rfl tyX2 tyX2_ok nmX2 rfl rfl (by decide +kernel) (pmt2 93 rfl (by decide +kernel)) rfl hd hn
theorem zputi_RX2_2 : zPuti RX2 (2, 7, 63) := fun hd hn => sn_puti (C := RX2) (T := TX2) (N := 10) (idx := 63) rfl pin2 (by decide) (by decide) rfl tyX2 tyX2_ok nmX2 rfl rfl (by decide +kernel) (pmt2 94 rfl (by decide +kernel)) rfl hd hn
theorem zputi_RX2_3 : zPuti RX2 (2, 8, 100) := fun hd hn => sn_puti (C := RX2) (T := TX2) (N := 10) (idx := 100) rfl pin2 (by decide) (by decide) rfl tyX2 tyX2_ok nmX2 rfl rfl (by decide +kernel) (pmt2 95 rfl (by decide +kernel)) rfl hd hn
theorem zputi_RX2_4 : zPuti RX2 (2, 9, 98) := fun hd hn => sn_puti (C := RX2) (T := TX2) (N := 10) (idx := 98) rfl pin2 (by decide) (by decide) rfl tyX2 tyX2_ok nmX2 rfl rfl (by decide +kernel) (pmt2 97 rfl (by decide +kernel)) rfl hd hn
theorem zputi_RX2_ok : ∀ q ∈ zputi_RX2, zPuti RX2 q := List.forall_mem_cons.mpr ⟨zputi_RX2_0, List.forall_mem_cons.mpr ⟨zputi_RX2_1, List.forall_mem_cons.mpr ⟨zputi_RX2_2, List.forall_mem_cons.mpr ⟨zputi_RX2_3, List.forall_mem_cons.mpr ⟨zputi_RX2_4, fun _ h => absurd h List.not_mem_nil⟩⟩⟩⟩⟩
def zcallV_RX2 : List (Nat × Nat × Nat × Nat × Nat) := [(0, 2, 116, 1, 66), (0, 10, 160, 2, 41), (1, 0, 69, 0, 37), (1, 0, 82, 3, 88), (1, 0, 89, 1, 55), (1, 2, 114, 2, 80), (1, 2, 115, 2, 59), (1, 2, 117, 2, 70), (1, 2, 118, 2, 110), (1, 2, 120, 2, 95), (1, 2, 121, 2, 103), (1, 2, 122, 3, 107), (1, 2, 124, 0, 118), (1, 10, 163, 0, 48)]
theorem zcallV_RX2_0 : zCallV RX2 (0, 2, 116, 1, 66) := fun hd hn => sn_callV (idx := 66) (C := RX2) (T := TX2) (N := 10) rfl (by decide) cal_116 (pmt5 206 rfl (by decide +kernel)) (pmt5 208 rfl (by decide +kernel)) (pms 34 rfl rfl) hd hn
theorem zcallV_RX2_1 : zCallV RX2 (0, 10, 160, 2, 41) := fun hd hn => sn_callV (idx := 41) (C := RX10) (T := TX10) (N := 12) rfl (by decide) cal_160 (pmt5 189 rfl (by decide +kernel)) (pmt4 187 rfl (by decide +kernel)) (pmt4 188 rfl (by decide +kernel)) hd hn
theorem zcallV_RX2_2 : zCallV RX2 (1, 0, 69, 0, 37) := fun hd hn => sn_callV (idx := 37) (C := RX0) (T := TX0) (N := 13) rfl (by decide) cal_69 (pmt5 188 rfl (by decide +kernel)) (pmt4 183 rfl (by decide +kernel)) (pmt4 184 rfl (by decide +kernel)) hd hn
theorem zcallV_RX2_3 : zCallV RX2 (1, 0, 82, 3, 88) := fun hd hn => sn_callV (idx := 88) (C := RX0) (T := TX0) (N := 13) rfl (by decide) cal_82 (pmt5 210 rfl (by decide +kernel)) (pmt4 28 rfl (by decide +kernel)) (pmt4 29 rfl (by decide +kernel)) hd hn
theorem zcallV_RX2_4 : zCallV RX2 (1, 0, 89, 1, 55) := fun hd hn => sn_callV (idx := 55) (C := RX0) (T := TX0) (N := 13) rfl (by decide) cal_89 (pmt5 196 rfl (by decide +kernel)) (pmt4 57 rfl (by decide +kernel)) (pmt4 58 rfl (by decide +kernel)) hd hn
theorem zcallV_RX2_5 : zCallV RX2 (1, 2, 114, 2, 80) := fun hd hn => sn_callV (idx := 80) (C := RX2) (T := TX2) (N := 10) rfl (by decide) cal_114 (pmt5 201 rfl (by decide +kernel)) (pmt5 202 rfl (by decide +kernel)) (pmt5 203 rfl (by decide +kernel)) hd hn
theorem zcallV_RX2_6 : zCallV RX2 (1, 2, 115, 2, 59) := fun hd hn => sn_callV (idx := 59) (C := RX2) (T := TX2) (N := 10) rfl (by decide) cal_115 (pmt5 197 rfl (by decide +kernel)) (pmt5 199 rfl (by decide +kernel)) (pms 33 rfl rfl) hd hn
theorem zcallV_RX2_7 : zCallV RX2 (1, 2, 117, 2, 70) := fun hd hn => sn_callV (idx := 70) (C := RX2) (T := TX2) (N := 10) rfl (by decide) cal_117 (pmt5 211 rfl (by decide +kernel)) (pmt5 213 rfl (by decide +kernel)) (pms 35 rfl rfl) hd hn
theorem zcallV_RX2_8 : zCallV RX2 (1, 2, 118, 2, 110) := fun hd hn => sn_callV (idx := 110) (C := RX2) (T := TX2) (N := 10) rfl (by decide) cal_118 (pmt5 231 rfl (by decide +kernel)) (pmt5 233 rfl (by decide +kernel)) (pms 39 rfl rfl) hd hn
theorem zcallV_RX2_9 : zCallV RX2 (1, 2, 120, 2, 95) := fun hd hn => sn_callV (idx := 95) (C := RX2) (T := TX2) (N := 10) rfl (by decide) cal_120 (pmt5 219 rfl (by decide +kernel)) (pmt5 221 rfl (by decide +kernel)) (pms 36 rfl rfl) hd hn
theorem zcallV_RX2_10 : zCallV RX2 (1, 2, 121, 2, 103) := fun hd hn => sn_callV (idx := 103) (C := RX2) (T := TX2) (N := 10) rfl (by decide) cal_121 (pmt5 223 rfl (by decide +kernel)) (pmt5 225 rfl (by decide +kernel)) (pms 37 rfl rfl) hd hn
theorem zcallV_RX2_11 : zCallV RX2 (1, 2, 122, 3, 107) := fun hd hn => sn_callV (idx := 107) (C := RX2) (T := TX2) (N := 10) rfl (by decide) cal_122 (pmt5 227 rfl (by decide +kernel)) (pmt5 229 rfl (by decide +kernel)) (pms 38 rfl rfl) hd hn
theorem zcallV_RX2_12 : zCallV RX2 (1, 2, 124, 0, 118) := fun hd hn => sn_callV (idx := 118) (C := RX2) (T := TX2) (N := 10) rfl (by decide) cal_124 (pmt6 5 rfl (by decide +kernel)) (pmt6 7 rfl (by decide +kernel)) (pms 40 rfl rfl) hd hn
theorem zcallV_RX2_13 : zCallV RX2 (1, 10, 163, 0, 48) := fun hd hn => sn_callV (idx := 48) (C := RX10) (T := TX10) (N := 12) rfl (by decide) cal_163 (pmt5 191 rfl (by decide +kernel)) (pmt4 200 rfl (by decide +kernel)) (pmt4 201 rfl (by decide +kernel)) hd hn
theorem zcallV_RX2_ok : ∀ q ∈ zcallV_RX2, zCallV RX2 q := List.forall_mem_cons.mpr ⟨zcallV_RX2_0, List.forall_mem_cons.mpr ⟨zcallV_RX2_1, List.forall_mem_cons.mpr ⟨zcallV_RX2_2, List.forall_mem_cons.mpr ⟨zcallV_RX2_3, List.forall_mem_cons.mpr ⟨zcallV_RX2_4, List.forall_mem_cons.mpr ⟨zcallV_RX2_5, List.forall_mem_cons.mpr ⟨zcallV_RX2_6, List.forall_mem_cons.mpr ⟨zcallV_RX2_7, List.forall_mem_cons.mpr ⟨zcallV_RX2_8, List.forall_mem_cons.mpr ⟨zcallV_RX2_9, List.forall_mem_cons.mpr ⟨zcallV_RX2_10, List.forall_mem_cons.mpr ⟨zcallV_RX2_11, List.forall_mem_cons.mpr ⟨zcallV_RX2_12, List.forall_mem_cons.mpr ⟨zcallV_RX2_13, fun _ h => absurd h List.not_mem_nil⟩⟩⟩⟩⟩⟩⟩⟩⟩⟩⟩⟩⟩⟩
def zgetf_RX3 : List (Nat × Nat × Nat) := [(0, 5, 15), (0, 9, 26), (0, 10, 31), (3, 0, 9), (3, 1, 22), (3, 2, 30), (3, 3, 34)]
theorem zgetf_RX3_0 : zGetf RX3 (0, 5, 15) := fun hd hn => sn_getf (C := RX0) (T := TX0) (N := 13) (idx := 15) rfl pin0 (by decide) (by decide) rfl (pmt1 120 rfl (by decide +kernel)) rfl hd hn
theorem zgetf_RX3_1 : zGetf RX3 (0, 9, 26) := fun hd hn => sn_getf (C := RX0) (T := TX0) (N := 13) (idx := 26) rfl pin0 (by decide) (by decide) rfl (pmt1 134 rfl (by decide +kernel)) rfl hd hn
theorem zgetf_RX3_2 : zGetf RX3 (0, 10, 31) := fun hd hn => sn_getf (C := RX0) (T := TX0) (N := 13) (idx := 31) rfl pin0 (by decide) (by decide) rfl (pmt1 138 rfl (by decide +kernel)) rfl hd hn
theorem zgetf_RX3_3 : zGetf RX3 (3, 0, 9) := fun hd hn => sn_getf (C := RX3) (T := TX3) (N := 6) (idx := 9) rfl pin3 (by decide) (by decide) rfl (pmt2 37 rfl (by decide +kernel)) rfl hd hn
theorem zgetf_RX3_4 : zGetf RX3 (3, 1, 22) := fun hd hn => sn_getf (C := RX3) (T := TX3) (N := 6) (idx := 22) rfl pin3 (by decide) (by decide) rfl (pmt2 39 rfl (by decide +kernel)) rfl hd hn
theorem zgetf_RX3_5 : zGetf RX3 (3, 2, 30) := fun hd hn => sn_getf (C := RX3) (T := TX3) (N := 6) (idx := 30) rfl pin3 (by decide) (by decide) rfl (pmt2 40 rfl (by decide +kernel)) rfl hd hn
theorem zgetf_RX3_6 : zGetf RX3 (3, 3, 34) := fun hd hn => sn_getf (C := RX3) (T := TX3) (N := 6) (idx := 34) rfl pin3 (by decide) (by decide) rfl (pmt2 41 rfl (by decide +kernel)) rfl hd hn
theorem zgetf_RX3_ok : ∀ q ∈ zgetf_RX3, zGetf RX3 q := List.forall_mem_cons.mpr ⟨zgetf_RX3_0, List.forall_mem_cons.mpr ⟨zgetf_RX3_1, List.forall_mem_cons.mpr ⟨zgetf_RX3_2, List.forall_mem_cons.mpr ⟨zgetf_RX3_3, List.forall_mem_cons.mpr ⟨zgetf_RX3_4, List.forall_mem_cons.mpr ⟨zgetf_RX3_5, List.forall_mem_cons.mpr ⟨zgetf_RX3_6, fun _ h => absurd h List.not_mem_nil⟩⟩⟩⟩⟩⟩⟩
def zputi_RX3 : List (Nat × Nat × Nat) := [(3, 2, 30), (3, 3, 34), (3, 4, 35), (3, 5, 38)]
theorem zputi_RX3_0 : zPuti RX3 (3, 2, 30) := fun hd hn => sn_puti (C := RX3) (T := TX3) (N := 6) (idx := 30) rfl pin3 (by decide) (by decide) rfl tyX3 tyX3_ok nmX3 rfl rfl (by decide +kernel) (pmt2 40 rfl (by decide +kernel)) rfl hd hn
theorem zputi_RX3_1 : zPuti RX3 (3, 3, 34) := fun hd hn => sn_puti (C := RX3) (T := TX3) (N := 6) (idx := 34) rfl pin3 (by decide) (by decide) rfl tyX3 tyX3_ok nmX3 rfl rfl (by decide +kernel) (pmt2 41 rfl (by decide +kernel)) rfl hd hn
theorem zputi_RX3_2 : zPuti RX3 (3, 4, 35) := fun hd hn => sn_puti (C := RX3) (T := TX3) (N := 6) (idx := 35) rfl pin3 (by decide) (by decide) rfl tyX3 tyX3_ok nmX3 rfl rfl (by decide +kernel) (pmt2 42 rfl (by decide +kernel)) rfl hd hn
theorem zputi_RX3_3 : zPuti RX3 (3, 5, 38) := fun hd hn => sn_puti (C := RX3) (T := TX3) (N := 6) (idx := 38) rfl pin3 (by decide) (by decide) rfl tyX3 tyX3_ok nmX3 rfl rfl (by decide +kernel) (pmt2 44 rfl (by decide +kernel)) rfl hd hn
theorem zputi_RX3_ok : ∀ q ∈ zputi_RX3, zPuti RX3 q := List.forall_mem_cons.mpr ⟨zputi_RX3_0, List.forall_mem_cons.mpr ⟨zputi_RX3_1, List.forall_mem_cons.mpr ⟨zputi_RX3_2, List.forall_mem_cons.mpr ⟨zputi_RX3_3, fun _ h => absurd h List.not_mem_nil⟩⟩⟩⟩
def zcallV_RX3 : List (Nat × Nat × Nat × Nat × Nat) := []
theorem zcallV_RX3_ok : ∀ q ∈ zcallV_RX3, zCallV RX3 q := fun _ h => absurd h List.not_mem_nil
def zgetf_RX4 : List (Nat × Nat × Nat) := [(4, 0, 9), (4, 1, 15)]
theorem zgetf_RX4_0 : zGetf RX4 (4, 0, 9) := fun hd hn => sn_getf (C := RX4) (T := TX4) (N := 2) (idx := 9) rfl pin4 (by decide) (by decide) rfl (pmt1 90 rfl (by decide +kernel)) rfl hd hn
theorem zgetf_RX4_1 : zGetf RX4 (4, 1, 15) := fun hd hn => sn_getf (C := RX4) (T := TX4) (N := 2) (idx := 15) rfl pin4 (by decide) (by decide) rfl (pmt1 92 rfl (by decide +kernel)) rfl hd hn
theorem zgetf_RX4_ok : ∀ q ∈ zgetf_RX4, zGetf RX4 q := List.forall_mem_cons.mpr ⟨zgetf_RX4_0, List.forall_mem_cons.mpr ⟨zgetf_RX4_1, fun _ h => absurd h List.not_mem_nil⟩⟩
def zputi_RX4 : List (Nat × Nat × Nat) := [(4, 1, 15)]
theorem zputi_RX4_0 : zPuti RX4 (4, 1, 15) := fun hd hn => sn_puti (C := RX4) (T := TX4) (N := 2) (idx := 15) rfl pin4 (by decide) (by decide) rfl tyX4 tyX4_ok nmX4 rfl rfl (by decide +kernel) (pmt1 92 rfl (by decide +kernel)) rfl hd hn
theorem zputi_RX4_ok : ∀ q ∈ zputi_RX4, zPuti RX4 q := List.forall_mem_cons.mpr ⟨zputi_RX4_0, fun _ h => absurd h List.not_mem_nil⟩
def zcallV_RX4 : List (Nat × Nat × Nat × Nat × Nat) := []
theorem zcallV_RX4_ok : ∀ q ∈ zcallV_RX4, zCallV RX4 q := fun _ h => absurd h List.not_mem_nil
def zgetf_RX5 : List (Nat × Nat × Nat) := [(5, 0, 9), (5, 1, 13), (5, 2, 16), (5, 3, 19)]
theorem zgetf_RX5_0 : zGetf RX5 (5, 0, 9) := fun hd hn => sn_getf (C := RX5) (T := TX5) (N := 4) (idx := 9) rfl pin5 (by decide) (by decide) rfl (pmt2 13 rfl (by decide +kernel)) rfl hd hn
theorem zgetf_RX5_1 : zGetf RX5 (5, 1, 13) := fun hd hn => sn_getf (C := RX5) (T := TX5) (N := 4) (idx := 13) rfl pin5 (by decide) (by decide) rfl (pmt2 15 rfl (by decide +kernel)) rfl hd hn
theorem zgetf_RX5_2 : zGetf RX5 (5, 2, 16) := fun hd hn => sn_getf (C := RX5) (T := TX5) (N := 4) (idx := 16) rfl pin5 (by decide) (by decide) rfl (pmt2 17 rfl (by decide +kernel)) rfl hd hn
theorem zgetf_RX5_3 : zGetf RX5 (5, 3, 19) := fun hd hn => sn_getf (C := RX5) (T := TX5) (N := 4) (idx := 19) rfl pin5 (by decide) (by decide) rfl (pmt2 19 rfl (by decide +kernel)) rfl hd hn
theorem zgetf_RX5_ok : ∀ q ∈ zgetf_RX5, zGetf RX5 q := List.forall_mem_cons.mpr ⟨zgetf_RX5_0, List.forall_mem_cons.mpr ⟨zgetf_RX5_1, List.forall_mem_cons.mpr ⟨zgetf_RX5_2, List.forall_mem_cons.mpr ⟨zgetf_RX5_3, fun _ h => absurd h List.not_mem_nil⟩⟩⟩⟩
def zputi_RX5 : List (Nat × Nat × Nat) := [(5, 3, 19)]
theorem zputi_RX5_0 : zPuti RX5 (5, 3, 19) := fun hd hn => sn_puti (C := RX5) (T := TX5) (N := 4) (idx := 19) rfl pin5 (by decide) (by decide) rfl tyX5 tyX5_ok nmX5 rfl rfl (by decide +kernel) (pmt2 19 rfl (by decide +kernel)) rfl hd hn
theorem zputi_RX5_ok : ∀ q ∈ zputi_RX5, zPuti RX5 q := List.forall_mem_cons.mpr ⟨zputi_RX5_0, fun _ h => absurd h List.not_mem_nil⟩
def zcallV_RX5 : List (Nat × Nat × Nat × Nat × Nat) := [(0, 5, 131, 0, 23)]
theorem zcallV_RX5_0 : zCallV RX5 (0, 5, 131, 0, 23) := fun hd hn => sn_callV (idx := 23) (C := RX5) (T := TX5) (N := 4) rfl (by decide) cal_131 (pmt4 48 rfl (by decide +kernel)) (pmt4 50 rfl (by decide +kernel)) (pms 17 rfl rfl) hd hn
theorem zcallV_RX5_ok : ∀ q ∈ zcallV_RX5, zCallV RX5 q := List.forall_mem_cons.mpr ⟨zcallV_RX5_0, fun _ h => absurd h List.not_mem_nil⟩
def zgetf_RX6 : List (Nat × Nat × Nat) := [(6, 0, 15), (6, 1, 19), (6, 2, 33), (6, 3, 9), (8, 0, 36), (8, 1, 22)]
theorem zgetf_RX6_0 : zGetf RX6 (6, 0, 15) := fun hd hn => sn_getf (C := RX6) (T := TX6) (N := 4) (idx := 15) rfl pin6 (by decide) (by decide) rfl (pmt1 57 rfl (by decide +kernel)) rfl hd hn
theorem zgetf_RX6_1 : zGetf RX6 (6, 1, 19) := fun hd hn => sn_getf (C := RX6) (T := TX6) (N := 4) (idx := 19) rfl pin6 (by decide) (by decide) rfl (pmt1 59 rfl (by decide +kernel)) rfl hd hn
theorem zgetf_RX6_2 : zGetf RX6 (6, 2, 33) := fun hd hn => sn_getf (C := RX6) (T := TX6) (N := 4) (idx := 33) rfl pin6 (by decide) (by decide) rfl (pmt1 62 rfl (by decide +kernel)) rfl hd hn
theorem zgetf_RX6_3 : zGetf RX6 (6, 3, 9) := fun hd hn => sn_getf (C := RX6) (T := TX6) (N := 4) (idx := 9) rfl pin6 (by decide) (by decide) rfl (pmt1 63 rfl (by decide +kernel)) rfl hd hn
theorem zgetf_RX6_4 : zGetf RX6 (8, 0, 36) := fun hd hn => sn_getf (C := RX8) (T := TX8) (N := 2) (idx := 36) rfl pin8 (by decide) (by decide) rfl (pmt1 40 rfl (by decide +kernel)) rfl hd hn
theorem zgetf_RX6_5 : zGetf RX6 (8, 1, 22) := fun hd hn => sn_getf (C := RX8) (T := TX8) (N := 2) (idx := 22) rfl pin8 (by decide) (by decide) rfl (pmt1 44 rfl (by decide +kernel)) rfl hd hn
theorem zgetf_RX6_ok : ∀ q ∈ zgetf_RX6, zGetf RX6 q := List.forall_mem_cons.mpr ⟨zgetf_RX6_0, List.forall_mem_cons.mpr ⟨zgetf_RX6_1, List.forall_mem_cons.mpr ⟨zgetf_RX6_2, List.forall_mem_cons.mpr ⟨zgetf_RX6_3, List.forall_mem_cons.mpr ⟨zgetf_RX6_4, List.forall_mem_cons.mpr ⟨zgetf_RX6_5, fun _ h => absurd h List.not_mem_nil⟩⟩⟩⟩⟩⟩
def zputi_RX6 : List (Nat × Nat × Nat) := [(6, 1, 19), (6, 2, 33), (6, 3, 9)]
theorem zputi_RX6_0 : zPuti RX6 (6, 1, 19) := fun hd hn => sn_puti (C := RX6) (T := TX6) (N := 4) (idx := 19) rfl pin6 (by decide) (by decide) rfl tyX6 tyX6_ok nmX6 rfl rfl (by decide +kernel) (pmt1 59 rfl (by decide +kernel)) rfl hd hn
theorem zputi_RX6_1 : zPuti RX6 (6, 2, 33) := fun hd hn => sn_puti (C := RX6) (T := TX6) (N := 4) (idx := 33) rfl pin6 (by decide) (by decide) rfl tyX6 tyX6_ok nmX6 rfl rfl (by decide +kernel) (pmt1 62 rfl (by decide +kernel)) rfl hd hn
theorem zputi_RX6_2 : zPuti RX6 (6, 3, 9) := fun hd hn => sn_puti (C := RX6) (T := TX6) (N := 4) (idx := 9) rfl pin6 (by decide) (by decide) rfl tyX6 tyX6_ok nmX6 rfl rfl (by decide +kernel) (pmt1 63 rfl (by decide +kernel)) rfl hd hn
theorem zputi_RX6_ok : ∀ q ∈ zputi_RX6, zPuti RX6 q := List.forall_mem_cons.mpr ⟨zputi_RX6_0, List.forall_mem_cons.mpr ⟨zputi_RX6_1, List.forall_mem_cons.mpr ⟨zputi_RX6_2, fun _ h => absurd h List.not_mem_nil⟩⟩⟩
def zcallV_RX6 : List (Nat × Nat × Nat × Nat × Nat) := [(0, 6, 135, 1, 44), (1, 6, 133, 0, 40), (1, 6, 138, 0, 55), (1, 6, 139, 2, 52), (1, 6, 141, 3, 48)]
theorem zcallV_RX6_0 : zCallV RX6 (0, 6, 135, 1, 44) := fun hd hn => sn_callV (idx := 44) (C := RX6) (T := TX6) (N := 4) rfl (by decide) cal_135 (pmt2 234 rfl (by decide +kernel)) (pmt2 235 rfl (by decide +kernel)) (pmt2 236 rfl (by decide +kernel)) hd hn
theorem zcallV_RX6_1 : zCallV RX6 (1, 6, 133, 0, 40) := fun hd hn => sn_callV (idx := 40) (C := RX6) (T := TX6) (N := 4) rfl (by decide) cal_133 (pmt2 229 rfl (by decide +kernel)) (pmt2 218 rfl (by decide +kernel)) (pmt2 219 rfl (by decide +kernel)) hd hn
theorem zcallV_RX6_2 : zCallV RX6 (1, 6, 138, 0, 55) := fun hd hn => sn_callV (idx := 55) (C := RX6) (T := TX6) (N := 4) rfl (by decide) cal_138 (pmt2 238 rfl (by decide +kernel)) (pmt2 239 rfl (by decide +kernel)) (pmt3 0 rfl (by decide +kernel)) hd hn
theorem zcallV_RX6_3 : zCallV RX6 (1, 6, 139, 2, 52) := fun hd hn => sn_callV (idx := 52) (C := RX6) (T := TX6) (N := 4) rfl (by decide) cal_139 (pmt2 225 rfl (by decide +kernel)) (pmt2 226 rfl (by decide +kernel)) (pmt2 227 rfl (by decide +kernel)) hd hn
theorem zcallV_RX6_4 : zCallV RX6 (1, 6, 141, 3, 48) := fun hd hn => sn_callV (idx := 48) (C := RX6) (T := TX6) (N := 4) rfl (by decide) cal_141 (pmt2 230 rfl (by decide +kernel)) (pmt2 232 rfl (by decide +kernel)) (pms 1 rfl rfl) hd hn
theorem zcallV_RX6_ok : ∀ q ∈ zcallV_RX6, zCallV RX6 q := List.forall_mem_cons.mpr ⟨zcallV_RX6_0, List.forall_mem_cons.mpr ⟨zcallV_RX6_1, List.forall_mem_cons.mpr ⟨zcallV_RX6_2, List.forall_mem_cons.mpr ⟨zcallV_RX6_3, List.forall_mem_cons.mpr ⟨zcallV_RX6_4, fun _ h => absurd h List.not_mem_nil⟩⟩⟩⟩⟩
def zgetf_RX7 : List (Nat × Nat × Nat) := [(0, 0, 77), (0, 2, 59), (0, 3, 62), (0, 4, 65), (0, 5, 84), (6, 0, 35), (6, 1, 103), (7, 0, 12), (7, 1, 23), (7, 2, 27), (8, 1, 38)]
theorem zgetf_RX7_0 : zGetf RX7 (0, 0, 77) := fun hd hn => sn_getf (C := RX0) (T := TX0) (N := 13) (idx := 77) rfl pin0 (by decide) (by decide) rfl (pmt1 107 rfl (by decide +kernel)) rfl hd hn
theorem zgetf_RX7_1 : zGetf RX7 (0, 2, 59) := fun hd hn => sn_getf (C := RX0) (T := TX0) (N := 13) (idx := 59) rfl pin0 (by decide) (by decide) rfl (pmt1 111 rfl (by decide +kernel)) rfl hd hn
theorem zgetf_RX7_2 : zGetf RX7 (0, 3, 62) := fun hd hn => sn_getf (C := RX0) (T := TX0) (N := 13) (idx := 62) rfl pin0 (by decide) (by decide) rfl (pmt1 114 rfl (by decide +kernel)) rfl hd hn
theorem zgetf_RX7_3 : zGetf RX7 (0, 4, 65) := fun hd hn => sn_getf (C := RX0) (T := TX0) (N := 13) (idx := 65) rfl pin0 (by decide) (by decide) rfl (pmt1 117 rfl (by decide +kernel)) rfl hd hn
theorem zgetf_RX7_4 : zGetf RX7 (0, 5, 84) := fun hd hn => sn_getf (C := RX0) (T := TX0) (N := 13) (idx := 84) rfl pin0 (by decide) (by decide) rfl (pmt1 122 rfl (by decide +kernel)) rfl hd hn
theorem zgetf_RX7_5 : zGetf RX7 (6, 0, 35) := fun hd hn => sn_getf (C := RX6) (T := TX6) (N := 4) (idx := 35) rfl pin6 (by decide) (by decide) rfl (pmt1 58 rfl (by decide +kernel)) rfl hd hn
theorem zgetf_RX7_6 : zGetf RX7 (6, 1, 103) := fun hd hn => sn_getf (C := RX6) (T := TX6) (N := 4) (idx := 103) rfl pin6 (by decide) (by decide) rfl (pmt1 61 rfl (by decide +kernel)) rfl hd hn
theorem zgetf_RX7_7 : zGetf RX7 (7, 0, 12) := fun hd hn => sn_getf (C := RX7) (T := TX7) (N := 3) (idx := 12) rfl pin7 (by decide) (by decide) rfl (pmt1 188 rfl (by decide +kernel)) rfl hd hn
theorem zgetf_RX7_8 : zGetf RX7 (7, 1, 23) := fun hd hn => sn_getf (C := RX7) (T := TX7) (N := 3) (idx := 23) rfl pin7 (by decide) (by decide) rfl (pmt1 190 rfl (by decide +kernel)) rfl hd hn
theorem zgetf_RX7_9 : zGetf RX7 (7, 2, 27) := fun hd hn => sn_getf (C := RX7) (T := TX7) (N := 3) (idx := 27) rfl pin7 (by decide) (by decide) rfl (pmt1 191 rfl (by decide +kernel)) rfl hd hn
theorem zgetf_RX7_10 : zGetf RX7 (8, 1, 38) := fun hd hn => sn_getf (C := RX8) (T := TX8) (N := 2) (idx := 38) rfl pin8 (by decide) (by decide) rfl (pmt1 42 rfl (by decide +kernel)) rfl hd hn
theorem zgetf_RX7_ok : ∀ q ∈ zgetf_RX7, zGetf RX7 q := List.forall_mem_cons.mpr ⟨zgetf_RX7_0, List.forall_mem_cons.mpr ⟨zgetf_RX7_1, List.forall_mem_cons.mpr ⟨zgetf_RX7_2, List.forall_mem_cons.mpr ⟨zgetf_RX7_3, List.forall_mem_cons.mpr ⟨zgetf_RX7_4, List.forall_mem_cons.mpr ⟨zgetf_RX7_5, List.forall_mem_cons.mpr ⟨zgetf_RX7_6, List.forall_mem_cons.mpr ⟨zgetf_RX7_7, List.forall_mem_cons.mpr ⟨zgetf_RX7_8, List.forall_mem_cons.mpr ⟨zgetf_RX7_9, List.forall_mem_cons.mpr ⟨zgetf_RX7_10, fun _ h => absurd h List.not_mem_nil⟩⟩⟩⟩⟩⟩⟩⟩⟩⟩⟩
def zputi_RX7 : List (Nat × Nat × Nat) := [(6, 1, 103)]
theorem zputi_RX7_0 : zPuti RX7 (6, 1, 103) := fun hd hn => sn_puti (C := RX6) (T := TX6) (N := 4) (idx := 103) rfl pin6 (by decide) (by decide) rfl tyX6 tyX6_ok nmX6 rfl rfl (by decide +kernel) (pmt1 61 rfl (by decide +kernel)) rfl hd hn
theorem zputi_RX7_ok : ∀ q ∈ zputi_RX7, zPuti RX7 q := List.forall_mem_cons.mpr ⟨zputi_RX7_0, fun _ h => absurd h List.not_mem_nil⟩
def zcallV_RX7 : List (Nat × Nat × Nat × Nat × Nat) := [(0, 6, 132, 1, 31), (0, 6, 135, 1, 106), (0, 6, 137, 1, 137), (1, 0, 63, 1, 56), (1, 0, 64, 1, 50), (1, 0, 77, 2, 80), (1, 0, 93, 1, 68), (1, 6, 133, 0, 112), (1, 6, 134, 0, 99), (1, 6, 136, 0, 46), (1, 6, 138, 0, 124), (1, 6, 139, 2, 140), (1, 7, 145, 1, 42), (1, 7, 146, 2, 95), (1, 7, 147, 2, 109), (1, 7, 148, 2, 115), (1, 7, 149, 2, 118), (1, 7, 150, 2, 121), (1, 7, 151, 1, 127)]
theorem zcallV_RX7_0 : zCallV RX7 (0, 6, 132, 1, 31) := fun hd hn => sn_callV (idx := 31) (C := RX6) (T := TX6) (N := 4) rfl (by decide) cal_132 (pmt3 92 rfl (by decide +kernel)) (pmt2 207 rfl (by decide +kernel)) (pmt2 208 rfl (by decide +kernel)) hd hn
theorem zcallV_RX7_1 : zCallV RX7 (0, 6, 135, 1, 106) := fun hd hn => sn_callV (idx := 106) (C := RX6) (T := TX6) (N := 4) rfl (by decide) cal_135 (pmt3 209 rfl (by decide +kernel)) (pmt2 235 rfl (by decide +kernel)) (pmt2 236 rfl (by decide +kernel)) hd hn
theorem zcallV_RX7_2 : zCallV RX7 (0, 6, 137, 1, 137) := fun hd hn => sn_callV (idx := 137) (C := RX6) (T := TX6) (N := 4) rfl (by decide) cal_137 (pmt3 210 rfl (by decide +kernel)) (pmt3 12 rfl (by decide +kernel)) (pmt3 13 rfl (by decide +kernel)) hd hn
theorem zcallV_RX7_3 : zCallV RX7 (1, 0, 63, 1, 56) := fun hd hn => sn_callV (idx := 56) (C := RX0) (T := TX0) (N := 13) rfl (by decide) cal_63 (pmt4 230 rfl (by decide +kernel)) (pmt3 25 rfl (by decide +kernel)) (pmt3 26 rfl (by decide +kernel)) hd hn
theorem zcallV_RX7_4 : zCallV RX7 (1, 0, 64, 1, 50) := fun hd hn => sn_callV (idx := 50) (C := RX0) (T := TX0) (N := 13) rfl (by decide) cal_64 (pmt4 229 rfl (by decide +kernel)) (pmt4 20 rfl (by decide +kernel)) (pmt4 21 rfl (by decide +kernel)) hd hn
theorem zcallV_RX7_5 : zCallV RX7 (1, 0, 77, 2, 80) := fun hd hn => sn_callV (idx := 80) (C := RX0) (T := TX0) (N := 13) rfl (by decide) cal_77 (pmt5 1 rfl (by decide +kernel)) (pmt5 2 rfl (by decide +kernel)) (pmt5 3 rfl (by decide +kernel)) hd hn
theorem zcallV_RX7_6 : zCallV RX7 (1, 0, 93, 1, 68) := fun hd hn => sn_callV (idx := 68) (C := RX0) (T := TX0) (N := 13) rfl (by decide) cal_93 (pmt4 231 rfl (by decide +kernel)) (pmt4 232 rfl (by decide +kernel)) (pmt4 233 rfl (by decide +kernel)) hd hn
theorem zcallV_RX7_7 : zCallV RX7 (1, 6, 133, 0, 112) := fun hd hn => sn_callV (idx := 112) (C := RX6) (T := TX6) (N := 4) rfl (by decide) cal_133 (pmt3 113 rfl (by decide +kernel)) (pmt2 218 rfl (by decide +kernel)) (pmt2 219 rfl (by decide +kernel)) hd hn
theorem zcallV_RX7_8 : zCallV RX7 (1, 6, 134, 0, 99) := fun hd hn => sn_callV (idx := 99) (C := RX6) (T := TX6) (N := 4) rfl (by decide) cal_134 (pmt3 211 rfl (by decide +kernel)) (pmt3 37 rfl (by decide +kernel)) (pmt3 38 rfl (by decide +kernel)) hd hn
theorem zcallV_RX7_9 : zCallV RX7 (1, 6, 136, 0, 46) := fun hd hn => sn_callV (idx := 46) (C := RX6) (T := TX6) (N := 4) rfl (by decide) cal_136 (pmt3 212 rfl (by decide +kernel)) (pmt3 54 rfl (by decide +kernel)) (pmt3 55 rfl (by decide +kernel)) hd hn
theorem zcallV_RX7_10 : zCallV RX7 (1, 6, 138, 0, 124) := fun hd hn => sn_callV (idx := 124) (C := RX6) (T := TX6) (N := 4) rfl (by decide) cal_138 (pmt3 118 rfl (by decide +kernel)) (pmt2 239 rfl (by decide +kernel)) (pmt3 0 rfl (by decide +kernel)) hd hn
theorem zcallV_RX7_11 : zCallV RX7 (1, 6, 139, 2, 140) := fun hd hn => sn_callV (idx := 140) (C := RX6) (T := TX6) (N := 4) rfl (by decide) cal_139 (pmt3 123 rfl (by decide +kernel)) (pmt2 226 rfl (by decide +kernel)) (pmt2 227 rfl (by decide +kernel)) hd hn
theorem zcallV_RX7_12 : zCallV RX7 (1, 7, 145, 1, 42) := fun hd hn => sn_callV (idx := 42) (C := RX7) (T := TX7) (N := 3) rfl (by decide) cal_145 (pmt3 93 rfl (by decide +kernel)) (pmt3 95 rfl (by decide +kernel)) (pms 7 rfl rfl) hd hn
theorem zcallV_RX7_13 : zCallV RX7 (1, 7, 146, 2, 95) := fun hd hn => sn_callV (idx := 95) (C := RX7) (T := TX7) (N := 3) rfl (by decide) cal_146 (pmt3 97 rfl (by decide +kernel)) (pmt3 99 rfl (by decide +kernel)) (pms 8 rfl rfl) hd hn
theorem zcallV_RX7_14 : zCallV RX7 (1, 7, 147, 2, 109) := fun hd hn => sn_callV (idx := 109) (C := RX7) (T := TX7) (N := 3) rfl (by decide) cal_147 (pmt3 101 rfl (by decide +kernel)) (pmt3 103 rfl (by decide +kernel)) (pms 9 rfl rfl) hd hn
theorem zcallV_RX7_15 : zCallV RX7 (1, 7, 148, 2, 115) := fun hd hn => sn_callV (idx := 115) (C := RX7) (T := TX7) (N := 3) rfl (by decide) cal_148 (pmt3 105 rfl (by decide +kernel)) (pmt3 107 rfl (by decide +kernel)) (pms 10 rfl rfl) hd hn
theorem zcallV_RX7_16 : zCallV RX7 (1, 7, 149, 2, 118) := fun hd hn => sn_callV (idx := 118) (C := RX7) (T := TX7) (N := 3) rfl (by decide) cal_149 (pmt3 109 rfl (by decide +kernel)) (pmt3 111 rfl (by decide +kernel)) (pms 11 rfl rfl) hd hn
theorem zcallV_RX7_17 : zCallV RX7 (1, 7, 150, 2, 121) := fun hd hn => sn_callV (idx := 121) (C := RX7) (T := TX7) (N := 3) rfl (by decide) cal_150 (pmt3 114 rfl (by decide +kernel)) (pmt3 116 rfl (by decide +kernel)) (pms 12 rfl rfl) hd hn
theorem zcallV_RX7_18 : zCallV RX7 (1, 7, 151, 1, 127) := fun hd hn => sn_callV (idx := 127) (C := RX7) (T := TX7) (N := 3) rfl (by decide) cal_151 (pmt3 119 rfl (by decide +kernel)) (pmt3 121 rfl (by decide +kernel)) (pms 13 rfl rfl) hd hn
theorem zcallV_RX7_ok : ∀ q ∈ zcallV_RX7, zCallV RX7 q := List.forall_mem_cons.mpr ⟨zcallV_RX7_0, List.forall_mem_cons.mpr ⟨zcallV_RX7_1, List.forall_mem_cons.mpr ⟨zcallV_RX7_2, List.forall_mem_cons.mpr ⟨zcallV_RX7_3, List.forall_mem_cons.mpr ⟨zcallV_RX7_4, List.forall_mem_cons.mpr ⟨zcallV_RX7_5, List.forall_mem_cons.mpr ⟨zcallV_RX7_6, List.forall_mem_cons.mpr ⟨zcallV_RX7_7, List.forall_mem_cons.mpr ⟨zcallV_RX7_8, List.forall_mem_cons.mpr ⟨zcallV_RX7_9, List.forall_mem_cons.mpr ⟨zcallV_RX7_10, List.forall_mem_cons.mpr ⟨zcallV_RX7_11, List.forall_mem_cons.mpr ⟨zcallV_RX7_12, List.forall_mem_cons.mpr ⟨zcallV_RX7_13, List.forall_mem_cons.mpr ⟨zcallV_RX7_14, List.forall_mem_cons.mpr ⟨zcallV_RX7_15, List.forall_mem_cons.mpr ⟨zcallV_RX7_16, List.forall_mem_cons.mpr ⟨zcallV_RX7_17, List.forall_mem_cons.mpr ⟨zcallV_RX7_18, fun _ h => absurd h List.not_mem_nil⟩⟩⟩⟩⟩⟩⟩⟩⟩⟩⟩⟩⟩⟩⟩⟩⟩⟩⟩
def zgetf_RX8 : List (Nat × Nat × Nat) := [(8, 0, 11), (8, 1, 15)]
theorem zgetf_RX8_0 : zGetf RX8 (8, 0, 11) := fun hd hn => sn_getf (C := RX8) (T := TX8) (N := 2) (idx := 11) rfl pin8 (by decide) (by decide) rfl (pmt1 39 rfl (by decide +kernel)) rfl hd hn
theorem zgetf_RX8_1 : zGetf RX8 (8, 1, 15) := fun hd hn => sn_getf (C := RX8) (T := TX8) (N := 2) (idx := 15) rfl pin8 (by decide) (by decide) rfl (pmt1 41 rfl (by decide +kernel)) rfl hd hn
theorem zgetf_RX8_ok : ∀ q ∈ zgetf_RX8, zGetf RX8 q := List.forall_mem_cons.mpr ⟨zgetf_RX8_0, List.forall_mem_cons.mpr ⟨zgetf_RX8_1, fun _ h => absurd h List.not_mem_nil⟩⟩
def zputi_RX8 : List (Nat × Nat × Nat) := [(8, 1, 15)]
theorem zputi_RX8_0 : zPuti RX8 (8, 1, 15) := fun hd hn => sn_puti (C := RX8) (T := TX8) (N := 2) (idx := 15) rfl pin8 (by decide) (by decide) rfl tyX8 tyX8_ok nmX8 rfl rfl (by decide +kernel) (pmt1 41 rfl (by decide +kernel)) rfl hd hn
theorem zputi_RX8_ok : ∀ q ∈ zputi_RX8, zPuti RX8 q := List.forall_mem_cons.mpr ⟨zputi_RX8_0, fun _ h => absurd h List.not_mem_nil⟩
def zcallV_RX8 : List (Nat × Nat × Nat × Nat × Nat) := []
theorem zcallV_RX8_ok : ∀ q ∈ zcallV_RX8, zCallV RX8 q := fun _ h => absurd h List.not_mem_nil
def zgetf_RX9 : List (Nat × Nat × Nat) := [(0, 5, 43), (0, 8, 50), (0, 10, 38), (9, 0, 9), (9, 1, 15), (9, 2, 19), (9, 3, 34)]
theorem zgetf_RX9_0 : zGetf RX9 (0, 5, 43) := fun hd hn => sn_getf (C := RX0) (T := TX0) (N := 13) (idx := 43) rfl pin0 (by decide) (by decide) rfl (pmt1 121 rfl (by decide +kernel)) rfl hd hn
theorem zgetf_RX9_1 : zGetf RX9 (0, 8, 50) := fun hd hn => sn_getf (C := RX0) (T := TX0) (N := 13) (idx := 50) rfl pin0 (by decide) (by decide) rfl (pmt1 130 rfl (by decide +kernel)) rfl hd hn
theorem zgetf_RX9_2 : zGetf RX9 (0, 10, 38) := fun hd hn => sn_getf (C := RX0) (T := TX0) (N := 13) (idx := 38) rfl pin0 (by decide) (by decide) rfl (pmt1 140 rfl (by decide +kernel)) rfl hd hn
theorem zgetf_RX9_3 : zGetf RX9 (9, 0, 9) := fun hd hn => sn_getf (C := RX9) (T := TX9) (N := 4) (idx := 9) rfl pin9 (by decide) (by decide) rfl (pmt2 65 rfl (by decide +kernel)) rfl hd hn
theorem zgetf_RX9_4 : zGetf RX9 (9, 1, 15) := fun hd hn => sn_getf (C := RX9) (T := TX9) (N := 4) (idx := 15) rfl pin9 (by decide) (by decide) rfl (pmt2 66 rfl (by decide +kernel)) rfl hd hn
theorem zgetf_RX9_5 : zGetf RX9 (9, 2, 19) := fun hd hn => sn_getf (C := RX9) (T := TX9) (N := 4) (idx := 19) rfl pin9 (by decide) (by decide) rfl (pmt2 68 rfl (by decide +kernel)) rfl hd hn
theorem zgetf_RX9_6 : zGetf RX9 (9, 3, 34) := fun hd hn => sn_getf (C := RX9) (T := TX9) (N := 4) (idx := 34) rfl pin9 (by decide) (by decide) rfl (pmt2 69 rfl (by decide +kernel)) rfl hd hn
theorem zgetf_RX9_ok : ∀ q ∈ zgetf_RX9, zGetf RX9 q := List.forall_mem_cons.mpr ⟨zgetf_RX9_0, List.forall_mem_cons.mpr ⟨zgetf_RX9_1, List.forall_mem_cons.mpr ⟨zgetf_RX9_2, List.forall_mem_cons.mpr ⟨zgetf_RX9_3, List.forall_mem_cons.mpr ⟨zgetf_RX9_4, List.forall_mem_cons.mpr ⟨zgetf_RX9_5, List.forall_mem_cons.mpr ⟨zgetf_RX9_6, fun _ h => absurd h List.not_mem_nil⟩⟩⟩⟩⟩⟩⟩
def zputi_RX9 : List (Nat × Nat × Nat) := [(9, 3, 34)]
theorem zputi_RX9_0 : zPuti RX9 (9, 3, 34) := fun hd hn => sn_puti (C := RX9) (T := TX9) (N := 4) (idx := 34) rfl pin9 (by decide) (by decide) rfl tyX9 tyX9_ok nmX9 rfl rfl (by decide +kernel) (pmt2 69 rfl (by decide +kernel)) rfl hd hn
theorem zputi_RX9_ok : ∀ q ∈ zputi_RX9, zPuti RX9 q := List.forall_mem_cons.mpr ⟨zputi_RX9_0, fun _ h => absurd h List.not_mem_nil⟩
def zcallV_RX9 : List (Nat × Nat × Nat × Nat × Nat) := [(1, 0, 88, 1, 57), (1, 9, 158, 2, 30), (1, 9, 159, 3, 26)]
theorem zcallV_RX9_0 : zCallV RX9 (1, 0, 88, 1, 57) := fun hd hn => sn_callV (idx := 57) (C := RX0) (T := TX0) (N := 13) rfl (by decide) cal_88 (pmt5 167 rfl (by decide +kernel)) (pmt4 70 rfl (by decide +kernel)) (pmt4 71 rfl (by decide +kernel)) hd hn
theorem zcallV_RX9_1 : zCallV RX9 (1, 9, 158, 2, 30) := fun hd hn => sn_callV (idx := 30) (C := RX9) (T := TX9) (N := 4) rfl (by decide) cal_158 (pmt5 168 rfl (by decide +kernel)) (pmt5 170 rfl (by decide +kernel)) (pms 31 rfl rfl) hd hn
theorem zcallV_RX9_2 : zCallV RX9 (1, 9, 159, 3, 26) := fun hd hn => sn_callV (idx := 26) (C := RX9) (T := TX9) (N := 4) rfl (by decide) cal_159 (pmt5 162 rfl (by decide +kernel)) (pmt5 164 rfl (by decide +kernel)) (pms 30 rfl rfl) hd hn
theorem zcallV_RX9_ok : ∀ q ∈ zcallV_RX9, zCallV RX9 q := List.forall_mem_cons.mpr ⟨zcallV_RX9_0, List.forall_mem_cons.mpr ⟨zcallV_RX9_1, List.forall_mem_cons.mpr ⟨zcallV_RX9_2, fun _ h => absurd h List.not_mem_nil⟩⟩⟩
