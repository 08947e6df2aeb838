/-! decoding by the bytes alone (by program) -/
section DEC
variable {cc : ByteArray} {pc p : Nat}
def bx (cc : ByteArray) (p : Nat) : Nat := if h : p < cc.size then cc[p].toNat else 256
abbrev dcD (a : Type) : Type := Jvm.ClassFile.Reader Jvm.ClassFile.DecodeError a
theorem bx_u1 {n : Nat} (h : bx cc p = n) (hn : n < 256) : (Jvm.ClassFile.Reader.u1 : dcD Nat) cc p = .ok (n, p + 1) := by
  unfold bx at h
  by_cases q : p < cc.size
  · rw [dif_pos q] at h
    have e : (Jvm.ClassFile.Reader.u1 : dcD Nat) cc p = (if h : p < cc.size then (do set (p + 1); Pure.pure cc[p].toNat : dcD Nat) else (throw (Jvm.ClassFile.HasTruncated.truncated p) : dcD Nat)) cc p := rfl
    rw [e, dif_pos q, h]
    rfl
  · rw [dif_neg q] at h
    omega
theorem bx_b1 {t : Type} {K : Nat → dcD t} {n : Nat} (h : bx cc p = n) (hn : n < 256) : (Bind.bind Jvm.ClassFile.Reader.u1 K : dcD t) cc p = K n cc (p + 1) := by
  have e : (Bind.bind Jvm.ClassFile.Reader.u1 K : dcD t) cc p = Except.bind ((Jvm.ClassFile.Reader.u1 : dcD Nat) cc p) (fun x => K x.1 cc x.2) := rfl
  rw [e, bx_u1 h hn]; rfl
theorem bx_u2 {a b : Nat} (h : bx cc p = a) (ha : a < 256) (h2 : bx cc (p + 1) = b) (hb : b < 256) : (Jvm.ClassFile.Reader.u2 : dcD Nat) cc p = .ok (a * 256 + b, p + 2) := by
  unfold Jvm.ClassFile.Reader.u2
  rw [bx_b1 h ha, bx_b1 h2 hb]; rfl
theorem bx_b2 {t : Type} {K : Nat → dcD t} {a b : Nat} (h : bx cc p = a) (ha : a < 256) (h2 : bx cc (p + 1) = b) (hb : b < 256) : (Bind.bind Jvm.ClassFile.Reader.u2 K : dcD t) cc p = K (a * 256 + b) cc (p + 2) := by
  have e : (Bind.bind Jvm.ClassFile.Reader.u2 K : dcD t) cc p = Except.bind ((Jvm.ClassFile.Reader.u2 : dcD Nat) cc p) (fun x => K x.1 cc x.2) := rfl
  rw [e, bx_u2 h ha h2 hb]; rfl
theorem bx_s1 {t : Type} {K : Int → dcD t} {n : Nat} (h : bx cc p = n) (hn : n < 256) : (Bind.bind Jvm.ClassFile.Reader.s1 K : dcD t) cc p = K (Jvm.ClassFile.Reader.signed 8 n) cc (p + 1) := by
  have e : (Bind.bind Jvm.ClassFile.Reader.s1 K : dcD t) cc p = Except.bind ((Jvm.ClassFile.Reader.u1 : dcD Nat) cc p) (fun x => K (Jvm.ClassFile.Reader.signed 8 x.1) cc x.2) := by
    show Except.bind (Except.bind ((Jvm.ClassFile.Reader.u1 : dcD Nat) cc p) (fun x => .ok (Jvm.ClassFile.Reader.signed 8 x.1, x.2))) (fun x => K x.1 cc x.2) = _
    cases (Jvm.ClassFile.Reader.u1 : dcD Nat) cc p <;> rfl
  rw [e, bx_u1 h hn]; rfl
theorem bx_s2 {t : Type} {K : Int → dcD t} {a b : Nat} (h : bx cc p = a) (ha : a < 256) (h2 : bx cc (p + 1) = b) (hb : b < 256) : (Bind.bind Jvm.ClassFile.Reader.s2 K : dcD t) cc p = K (Jvm.ClassFile.Reader.signed 16 (a * 256 + b)) cc (p + 2) := by
  have e : (Bind.bind Jvm.ClassFile.Reader.s2 K : dcD t) cc p = Except.bind ((Jvm.ClassFile.Reader.u2 : dcD Nat) cc p) (fun x => K (Jvm.ClassFile.Reader.signed 16 x.1) cc x.2) := by
    show Except.bind (Except.bind ((Jvm.ClassFile.Reader.u2 : dcD Nat) cc p) (fun x => .ok (Jvm.ClassFile.Reader.signed 16 x.1, x.2))) (fun x => K x.1 cc x.2) = _
    cases (Jvm.ClassFile.Reader.u2 : dcD Nat) cc p <;> rfl
  rw [e, bx_u2 h ha h2 hb]; rfl
theorem bx_d {x : UInt8} {l : List UInt8} (h : cc.data.toList.drop p = x :: l) : bx cc p = x.toNat ∧ cc.data.toList.drop (p + 1) = l := by
  have e : cc.data.toList[p]? = some x := by
    have := congrArg List.head? h
    rw [List.head?_drop] at this
    exact this
  obtain ⟨hp, e2⟩ := List.getElem?_eq_some_iff.mp e
  refine ⟨?_, ?_⟩
  · unfold bx
    rw [dif_pos (show p < cc.size from hp)]
    show (cc.data.toList[p]).toNat = x.toNat
    rw [e2]
  · rw [← List.drop_drop, h]; rfl
/-- what stands at a place, as a check -/
def bq0 (cc : ByteArray) (p k : Nat) : Bool := match cc.data.toList.drop p with
  | x :: _ => Nat.beq x.toNat k
  | _ => false
def bq1 (cc : ByteArray) (p k : Nat) (f : Nat → Bool) : Bool := match cc.data.toList.drop p with
  | x :: a :: _ => Nat.beq x.toNat k && f a.toNat
  | _ => false
def bq2 (cc : ByteArray) (p k : Nat) (f : Nat → Nat → Bool) : Bool := match cc.data.toList.drop p with
  | x :: a :: b :: _ => Nat.beq x.toNat k && f a.toNat b.toNat
  | _ => false
theorem bq0_of {k : Nat} (h : bq0 cc p k = true) : bx cc p = k := by
  unfold bq0 at h
  split at h
  · rename_i x l e
    rw [(bx_d e).1]; exact Nat.eq_of_beq_eq_true h
  · cases h
theorem bq1_of {k : Nat} {f : Nat → Bool} (h : bq1 cc p k f = true) : bx cc p = k ∧ bx cc (p + 1) < 256 ∧ f (bx cc (p + 1)) = true := by
  unfold bq1 at h
  split at h
  · rename_i x a l e
    rw [Bool.and_eq_true] at h
    obtain ⟨e1, e2⟩ := bx_d e
    obtain ⟨e3, e4⟩ := bx_d e2
    rw [e1, e3]
    exact ⟨Nat.eq_of_beq_eq_true h.1, a.toNat_lt, h.2⟩
  · cases h
theorem bq2_of {k : Nat} {f : Nat → Nat → Bool} (h : bq2 cc p k f = true) : bx cc p = k ∧ bx cc (p + 1) < 256 ∧ bx cc (p + 1 + 1) < 256 ∧ f (bx cc (p + 1)) (bx cc (p + 1 + 1)) = true := by
  unfold bq2 at h
  split at h
  · rename_i x a b l e
    rw [Bool.and_eq_true] at h
    obtain ⟨e1, e2⟩ := bx_d e
    obtain ⟨e3, e4⟩ := bx_d e2
    obtain ⟨e5, e6⟩ := bx_d e4
    rw [e1, e3, e5]
    exact ⟨Nat.eq_of_beq_eq_true h.1, a.toNat_lt, b.toNat_lt, h.2⟩
  · cases h
theorem dc_of {i : Jvm.ClassFile.Instr} {n : Nat} (h : Jvm.ClassFile.Decoder.instr pc cc pc = .ok (i, pc + n)) : decode cc pc = .ok (i, n) := by
  have e : decode cc pc = Except.bind (Jvm.ClassFile.Decoder.instr pc cc pc) (fun x => .ok (x.1, x.2 - pc)) := rfl
  rw [e, h]
  show Except.ok (i, pc + n - pc) = _
  rw [Nat.add_sub_cancel_left]
set_option maxRecDepth 100000 in
theorem dX_aaload (h : bq0 cc pc 50 = true) : decode cc pc = .ok (.aaload, 1) := by
  have h0 := bq0_of h
  refine dc_of ?_
  unfold Jvm.ClassFile.Decoder.instr
  rw [bx_b1 h0 (by decide)]
  rfl
set_option maxRecDepth 100000 in
theorem dX_aconst_null (h : bq0 cc pc 1 = true) : decode cc pc = .ok (.aconst_null, 1) := by
  have h0 := bq0_of h
  refine dc_of ?_
  unfold Jvm.ClassFile.Decoder.instr
  rw [bx_b1 h0 (by decide)]
  rfl
set_option maxRecDepth 100000 in
theorem dX_aload_0 (h : bq0 cc pc 42 = true) : decode cc pc = .ok (.aload_n 0, 1) := by
  have h0 := bq0_of h
  refine dc_of ?_
  unfold Jvm.ClassFile.Decoder.instr
  rw [bx_b1 h0 (by decide)]
  rfl
set_option maxRecDepth 100000 in
theorem dX_aload_1 (h : bq0 cc pc 43 = true) : decode cc pc = .ok (.aload_n 1, 1) := by
  have h0 := bq0_of h
  refine dc_of ?_
  unfold Jvm.ClassFile.Decoder.instr
  rw [bx_b1 h0 (by decide)]
  rfl
set_option maxRecDepth 100000 in
theorem dX_aload_2 (h : bq0 cc pc 44 = true) : decode cc pc = .ok (.aload_n 2, 1) := by
  have h0 := bq0_of h
  refine dc_of ?_
  unfold Jvm.ClassFile.Decoder.instr
  rw [bx_b1 h0 (by decide)]
  rfl
set_option maxRecDepth 100000 in
theorem dX_aload_3 (h : bq0 cc pc 45 = true) : decode cc pc = .ok (.aload_n 3, 1) := by
  have h0 := bq0_of h
  refine dc_of ?_
  unfold Jvm.ClassFile.Decoder.instr
  rw [bx_b1 h0 (by decide)]
  rfl
set_option maxRecDepth 100000 in
theorem dX_areturn (h : bq0 cc pc 176 = true) : decode cc pc = .ok (.areturn, 1) := by
  have h0 := bq0_of h
  refine dc_of ?_
  unfold Jvm.ClassFile.Decoder.instr
  rw [bx_b1 h0 (by decide)]
  rfl
set_option maxRecDepth 100000 in
theorem dX_arraylength (h : bq0 cc pc 190 = true) : decode cc pc = .ok (.arraylength, 1) := by
  have h0 := bq0_of h
  refine dc_of ?_
  unfold Jvm.ClassFile.Decoder.instr
  rw [bx_b1 h0 (by decide)]
  rfl
set_option maxRecDepth 100000 in
theorem dX_astore_1 (h : bq0 cc pc 76 = true) : decode cc pc = .ok (.astore_n 1, 1) := by
  have h0 := bq0_of h
  refine dc_of ?_
  unfold Jvm.ClassFile.Decoder.instr
  rw [bx_b1 h0 (by decide)]
  rfl
set_option maxRecDepth 100000 in
theorem dX_astore_2 (h : bq0 cc pc 77 = true) : decode cc pc = .ok (.astore_n 2, 1) := by
  have h0 := bq0_of h
  refine dc_of ?_
  unfold Jvm.ClassFile.Decoder.instr
  rw [bx_b1 h0 (by decide)]
  rfl
set_option maxRecDepth 100000 in
theorem dX_astore_3 (h : bq0 cc pc 78 = true) : decode cc pc = .ok (.astore_n 3, 1) := by
  have h0 := bq0_of h
  refine dc_of ?_
  unfold Jvm.ClassFile.Decoder.instr
  rw [bx_b1 h0 (by decide)]
  rfl
set_option maxRecDepth 100000 in
theorem dX_baload (h : bq0 cc pc 51 = true) : decode cc pc = .ok (.baload, 1) := by
  have h0 := bq0_of h
  refine dc_of ?_
  unfold Jvm.ClassFile.Decoder.instr
  rw [bx_b1 h0 (by decide)]
  rfl
set_option maxRecDepth 100000 in
theorem dX_bastore (h : bq0 cc pc 84 = true) : decode cc pc = .ok (.bastore, 1) := by
  have h0 := bq0_of h
  refine dc_of ?_
  unfold Jvm.ClassFile.Decoder.instr
  rw [bx_b1 h0 (by decide)]
  rfl
set_option maxRecDepth 100000 in
theorem dX_dup (h : bq0 cc pc 89 = true) : decode cc pc = .ok (.dup, 1) := by
  have h0 := bq0_of h
  refine dc_of ?_
  unfold Jvm.ClassFile.Decoder.instr
  rw [bx_b1 h0 (by decide)]
  rfl
set_option maxRecDepth 100000 in
theorem dX_dup2 (h : bq0 cc pc 92 = true) : decode cc pc = .ok (.dup2, 1) := by
  have h0 := bq0_of h
  refine dc_of ?_
  unfold Jvm.ClassFile.Decoder.instr
  rw [bx_b1 h0 (by decide)]
  rfl
set_option maxRecDepth 100000 in
theorem dX_dup_x1 (h : bq0 cc pc 90 = true) : decode cc pc = .ok (.dup_x1, 1) := by
  have h0 := bq0_of h
  refine dc_of ?_
  unfold Jvm.ClassFile.Decoder.instr
  rw [bx_b1 h0 (by decide)]
  rfl
set_option maxRecDepth 100000 in
theorem dX_i2b (h : bq0 cc pc 145 = true) : decode cc pc = .ok (.i2b, 1) := by
  have h0 := bq0_of h
  refine dc_of ?_
  unfold Jvm.ClassFile.Decoder.instr
  rw [bx_b1 h0 (by decide)]
  rfl
set_option maxRecDepth 100000 in
theorem dX_i2c (h : bq0 cc pc 146 = true) : decode cc pc = .ok (.i2c, 1) := by
  have h0 := bq0_of h
  refine dc_of ?_
  unfold Jvm.ClassFile.Decoder.instr
  rw [bx_b1 h0 (by decide)]
  rfl
set_option maxRecDepth 100000 in
theorem dX_i2s (h : bq0 cc pc 147 = true) : decode cc pc = .ok (.i2s, 1) := by
  have h0 := bq0_of h
  refine dc_of ?_
  unfold Jvm.ClassFile.Decoder.instr
  rw [bx_b1 h0 (by decide)]
  rfl
set_option maxRecDepth 100000 in
theorem dX_iadd (h : bq0 cc pc 96 = true) : decode cc pc = .ok (.iadd, 1) := by
  have h0 := bq0_of h
  refine dc_of ?_
  unfold Jvm.ClassFile.Decoder.instr
  rw [bx_b1 h0 (by decide)]
  rfl
set_option maxRecDepth 100000 in
theorem dX_iaload (h : bq0 cc pc 46 = true) : decode cc pc = .ok (.iaload, 1) := by
  have h0 := bq0_of h
  refine dc_of ?_
  unfold Jvm.ClassFile.Decoder.instr
  rw [bx_b1 h0 (by decide)]
  rfl
set_option maxRecDepth 100000 in
theorem dX_iand (h : bq0 cc pc 126 = true) : decode cc pc = .ok (.iand, 1) := by
  have h0 := bq0_of h
  refine dc_of ?_
  unfold Jvm.ClassFile.Decoder.instr
  rw [bx_b1 h0 (by decide)]
  rfl
set_option maxRecDepth 100000 in
theorem dX_iastore (h : bq0 cc pc 79 = true) : decode cc pc = .ok (.iastore, 1) := by
  have h0 := bq0_of h
  refine dc_of ?_
  unfold Jvm.ClassFile.Decoder.instr
  rw [bx_b1 h0 (by decide)]
  rfl
set_option maxRecDepth 100000 in
theorem dX_iconst_0 (h : bq0 cc pc 3 = true) : decode cc pc = .ok (.iconst 0, 1) := by
  have h0 := bq0_of h
  refine dc_of ?_
  unfold Jvm.ClassFile.Decoder.instr
  rw [bx_b1 h0 (by decide)]
  rfl
set_option maxRecDepth 100000 in
theorem dX_iconst_1 (h : bq0 cc pc 4 = true) : decode cc pc = .ok (.iconst 1, 1) := by
  have h0 := bq0_of h
  refine dc_of ?_
  unfold Jvm.ClassFile.Decoder.instr
  rw [bx_b1 h0 (by decide)]
  rfl
set_option maxRecDepth 100000 in
theorem dX_iconst_2 (h : bq0 cc pc 5 = true) : decode cc pc = .ok (.iconst 2, 1) := by
  have h0 := bq0_of h
  refine dc_of ?_
  unfold Jvm.ClassFile.Decoder.instr
  rw [bx_b1 h0 (by decide)]
  rfl
set_option maxRecDepth 100000 in
theorem dX_iconst_3 (h : bq0 cc pc 6 = true) : decode cc pc = .ok (.iconst 3, 1) := by
  have h0 := bq0_of h
  refine dc_of ?_
  unfold Jvm.ClassFile.Decoder.instr
  rw [bx_b1 h0 (by decide)]
  rfl
set_option maxRecDepth 100000 in
theorem dX_iconst_4 (h : bq0 cc pc 7 = true) : decode cc pc = .ok (.iconst 4, 1) := by
  have h0 := bq0_of h
  refine dc_of ?_
  unfold Jvm.ClassFile.Decoder.instr
  rw [bx_b1 h0 (by decide)]
  rfl
set_option maxRecDepth 100000 in
theorem dX_iconst_5 (h : bq0 cc pc 8 = true) : decode cc pc = .ok (.iconst 5, 1) := by
  have h0 := bq0_of h
  refine dc_of ?_
  unfold Jvm.ClassFile.Decoder.instr
  rw [bx_b1 h0 (by decide)]
  rfl
set_option maxRecDepth 100000 in
theorem dX_iconst_m1 (h : bq0 cc pc 2 = true) : decode cc pc = .ok (.iconst (-1), 1) := by
  have h0 := bq0_of h
  refine dc_of ?_
  unfold Jvm.ClassFile.Decoder.instr
  rw [bx_b1 h0 (by decide)]
  rfl
set_option maxRecDepth 100000 in
theorem dX_idiv (h : bq0 cc pc 108 = true) : decode cc pc = .ok (.idiv, 1) := by
  have h0 := bq0_of h
  refine dc_of ?_
  unfold Jvm.ClassFile.Decoder.instr
  rw [bx_b1 h0 (by decide)]
  rfl
set_option maxRecDepth 100000 in
theorem dX_iload_0 (h : bq0 cc pc 26 = true) : decode cc pc = .ok (.iload_n 0, 1) := by
  have h0 := bq0_of h
  refine dc_of ?_
  unfold Jvm.ClassFile.Decoder.instr
  rw [bx_b1 h0 (by decide)]
  rfl
set_option maxRecDepth 100000 in
theorem dX_iload_1 (h : bq0 cc pc 27 = true) : decode cc pc = .ok (.iload_n 1, 1) := by
  have h0 := bq0_of h
  refine dc_of ?_
  unfold Jvm.ClassFile.Decoder.instr
  rw [bx_b1 h0 (by decide)]
  rfl
set_option maxRecDepth 100000 in
theorem dX_iload_2 (h : bq0 cc pc 28 = true) : decode cc pc = .ok (.iload_n 2, 1) := by
  have h0 := bq0_of h
  refine dc_of ?_
  unfold Jvm.ClassFile.Decoder.instr
  rw [bx_b1 h0 (by decide)]
  rfl
set_option maxRecDepth 100000 in
theorem dX_iload_3 (h : bq0 cc pc 29 = true) : decode cc pc = .ok (.iload_n 3, 1) := by
  have h0 := bq0_of h
  refine dc_of ?_
  unfold Jvm.ClassFile.Decoder.instr
  rw [bx_b1 h0 (by decide)]
  rfl
set_option maxRecDepth 100000 in
theorem dX_imul (h : bq0 cc pc 104 = true) : decode cc pc = .ok (.imul, 1) := by
  have h0 := bq0_of h
  refine dc_of ?_
  unfold Jvm.ClassFile.Decoder.instr
  rw [bx_b1 h0 (by decide)]
  rfl
set_option maxRecDepth 100000 in
theorem dX_ineg (h : bq0 cc pc 116 = true) : decode cc pc = .ok (.ineg, 1) := by
  have h0 := bq0_of h
  refine dc_of ?_
  unfold Jvm.ClassFile.Decoder.instr
  rw [bx_b1 h0 (by decide)]
  rfl
set_option maxRecDepth 100000 in
theorem dX_ior (h : bq0 cc pc 128 = true) : decode cc pc = .ok (.ior, 1) := by
  have h0 := bq0_of h
  refine dc_of ?_
  unfold Jvm.ClassFile.Decoder.instr
  rw [bx_b1 h0 (by decide)]
  rfl
set_option maxRecDepth 100000 in
theorem dX_irem (h : bq0 cc pc 112 = true) : decode cc pc = .ok (.irem, 1) := by
  have h0 := bq0_of h
  refine dc_of ?_
  unfold Jvm.ClassFile.Decoder.instr
  rw [bx_b1 h0 (by decide)]
  rfl
set_option maxRecDepth 100000 in
theorem dX_ireturn (h : bq0 cc pc 172 = true) : decode cc pc = .ok (.ireturn, 1) := by
  have h0 := bq0_of h
  refine dc_of ?_
  unfold Jvm.ClassFile.Decoder.instr
  rw [bx_b1 h0 (by decide)]
  rfl
set_option maxRecDepth 100000 in
theorem dX_ishl (h : bq0 cc pc 120 = true) : decode cc pc = .ok (.ishl, 1) := by
  have h0 := bq0_of h
  refine dc_of ?_
  unfold Jvm.ClassFile.Decoder.instr
  rw [bx_b1 h0 (by decide)]
  rfl
set_option maxRecDepth 100000 in
theorem dX_ishr (h : bq0 cc pc 122 = true) : decode cc pc = .ok (.ishr, 1) := by
  have h0 := bq0_of h
  refine dc_of ?_
  unfold Jvm.ClassFile.Decoder.instr
  rw [bx_b1 h0 (by decide)]
  rfl
set_option maxRecDepth 100000 in
theorem dX_istore_0 (h : bq0 cc pc 59 = true) : decode cc pc = .ok (.istore_n 0, 1) := by
  have h0 := bq0_of h
  refine dc_of ?_
  unfold Jvm.ClassFile.Decoder.instr
  rw [bx_b1 h0 (by decide)]
  rfl
set_option maxRecDepth 100000 in
theorem dX_istore_1 (h : bq0 cc pc 60 = true) : decode cc pc = .ok (.istore_n 1, 1) := by
  have h0 := bq0_of h
  refine dc_of ?_
  unfold Jvm.ClassFile.Decoder.instr
  rw [bx_b1 h0 (by decide)]
  rfl
set_option maxRecDepth 100000 in
theorem dX_istore_2 (h : bq0 cc pc 61 = true) : decode cc pc = .ok (.istore_n 2, 1) := by
  have h0 := bq0_of h
  refine dc_of ?_
  unfold Jvm.ClassFile.Decoder.instr
  rw [bx_b1 h0 (by decide)]
  rfl
set_option maxRecDepth 100000 in
theorem dX_istore_3 (h : bq0 cc pc 62 = true) : decode cc pc = .ok (.istore_n 3, 1) := by
  have h0 := bq0_of h
  refine dc_of ?_
  unfold Jvm.ClassFile.Decoder.instr
  rw [bx_b1 h0 (by decide)]
  rfl
set_option maxRecDepth 100000 in
theorem dX_isub (h : bq0 cc pc 100 = true) : decode cc pc = .ok (.isub, 1) := by
  have h0 := bq0_of h
  refine dc_of ?_
  unfold Jvm.ClassFile.Decoder.instr
  rw [bx_b1 h0 (by decide)]
  rfl
set_option maxRecDepth 100000 in
theorem dX_iushr (h : bq0 cc pc 124 = true) : decode cc pc = .ok (.iushr, 1) := by
  have h0 := bq0_of h
  refine dc_of ?_
  unfold Jvm.ClassFile.Decoder.instr
  rw [bx_b1 h0 (by decide)]
  rfl
set_option maxRecDepth 100000 in
theorem dX_ixor (h : bq0 cc pc 130 = true) : decode cc pc = .ok (.ixor, 1) := by
  have h0 := bq0_of h
  refine dc_of ?_
  unfold Jvm.ClassFile.Decoder.instr
  rw [bx_b1 h0 (by decide)]
  rfl
set_option maxRecDepth 100000 in
theorem dX_pop (h : bq0 cc pc 87 = true) : decode cc pc = .ok (.pop, 1) := by
  have h0 := bq0_of h
  refine dc_of ?_
  unfold Jvm.ClassFile.Decoder.instr
  rw [bx_b1 h0 (by decide)]
  rfl
set_option maxRecDepth 100000 in
theorem dX_return (h : bq0 cc pc 177 = true) : decode cc pc = .ok (.return_, 1) := by
  have h0 := bq0_of h
  refine dc_of ?_
  unfold Jvm.ClassFile.Decoder.instr
  rw [bx_b1 h0 (by decide)]
  rfl
set_option maxRecDepth 100000 in
theorem dX_iload {n : Nat} (h : bq1 cc pc 21 (fun a => Nat.beq a n) = true) : decode cc pc = .ok (.iload n, 2) := by
  obtain ⟨h0, h1, h2⟩ := bq1_of h
  have h2 := Nat.eq_of_beq_eq_true h2
  subst h2
  refine dc_of ?_
  unfold Jvm.ClassFile.Decoder.instr
  rw [bx_b1 h0 (by decide)]
  exact (bx_b1 (K := fun x => Pure.pure (Jvm.ClassFile.Instr.iload x)) rfl h1).trans rfl
set_option maxRecDepth 100000 in
theorem dX_istore {n : Nat} (h : bq1 cc pc 54 (fun a => Nat.beq a n) = true) : decode cc pc = .ok (.istore n, 2) := by
  obtain ⟨h0, h1, h2⟩ := bq1_of h
  have h2 := Nat.eq_of_beq_eq_true h2
  subst h2
  refine dc_of ?_
  unfold Jvm.ClassFile.Decoder.instr
  rw [bx_b1 h0 (by decide)]
  exact (bx_b1 (K := fun x => Pure.pure (Jvm.ClassFile.Instr.istore x)) rfl h1).trans rfl
set_option maxRecDepth 100000 in
theorem dX_ldc {n : Nat} (h : bq1 cc pc 18 (fun a => Nat.beq a n) = true) : decode cc pc = .ok (.ldc n, 2) := by
  obtain ⟨h0, h1, h2⟩ := bq1_of h
  have h2 := Nat.eq_of_beq_eq_true h2
  subst h2
  refine dc_of ?_
  unfold Jvm.ClassFile.Decoder.instr
  rw [bx_b1 h0 (by decide)]
  exact (bx_b1 (K := fun x => Pure.pure (Jvm.ClassFile.Instr.ldc x)) rfl h1).trans rfl
set_option maxRecDepth 100000 in
theorem dX_bipush {n : Int} (h : bq1 cc pc 16 (fun a => decide (Jvm.ClassFile.Reader.signed 8 a = n)) = true) : decode cc pc = .ok (.bipush n, 2) := by
  obtain ⟨h0, h1, h2⟩ := bq1_of h
  have h2 := of_decide_eq_true h2
  subst h2
  refine dc_of ?_
  unfold Jvm.ClassFile.Decoder.instr
  rw [bx_b1 h0 (by decide)]
  exact (bx_s1 (K := fun x => Pure.pure (Jvm.ClassFile.Instr.bipush x)) rfl h1).trans rfl
set_option maxRecDepth 100000 in
theorem dX_getfield {n : Nat} (h : bq2 cc pc 180 (fun a b => Nat.beq (a * 256 + b) n) = true) : decode cc pc = .ok (.getfield n, 3) := by
  obtain ⟨h0, h1, h2, h3⟩ := bq2_of h
  have h3 := Nat.eq_of_beq_eq_true h3
  subst h3
  refine dc_of ?_
  unfold Jvm.ClassFile.Decoder.instr
  rw [bx_b1 h0 (by decide)]
  exact (bx_b2 (K := fun x => Pure.pure (Jvm.ClassFile.Instr.getfield x)) rfl h1 rfl h2).trans rfl
set_option maxRecDepth 100000 in
theorem dX_getstatic {n : Nat} (h : bq2 cc pc 178 (fun a b => Nat.beq (a * 256 + b) n) = true) : decode cc pc = .ok (.getstatic n, 3) := by
  obtain ⟨h0, h1, h2, h3⟩ := bq2_of h
  have h3 := Nat.eq_of_beq_eq_true h3
  subst h3
  refine dc_of ?_
  unfold Jvm.ClassFile.Decoder.instr
  rw [bx_b1 h0 (by decide)]
  exact (bx_b2 (K := fun x => Pure.pure (Jvm.ClassFile.Instr.getstatic x)) rfl h1 rfl h2).trans rfl
set_option maxRecDepth 100000 in
theorem dX_invokespecial {n : Nat} (h : bq2 cc pc 183 (fun a b => Nat.beq (a * 256 + b) n) = true) : decode cc pc = .ok (.invokespecial n, 3) := by
  obtain ⟨h0, h1, h2, h3⟩ := bq2_of h
  have h3 := Nat.eq_of_beq_eq_true h3
  subst h3
  refine dc_of ?_
  unfold Jvm.ClassFile.Decoder.instr
  rw [bx_b1 h0 (by decide)]
  exact (bx_b2 (K := fun x => Pure.pure (Jvm.ClassFile.Instr.invokespecial x)) rfl h1 rfl h2).trans rfl
set_option maxRecDepth 100000 in
theorem dX_invokestatic {n : Nat} (h : bq2 cc pc 184 (fun a b => Nat.beq (a * 256 + b) n) = true) : decode cc pc = .ok (.invokestatic n, 3) := by
  obtain ⟨h0, h1, h2, h3⟩ := bq2_of h
  have h3 := Nat.eq_of_beq_eq_true h3
  subst h3
  refine dc_of ?_
  unfold Jvm.ClassFile.Decoder.instr
  rw [bx_b1 h0 (by decide)]
  exact (bx_b2 (K := fun x => Pure.pure (Jvm.ClassFile.Instr.invokestatic x)) rfl h1 rfl h2).trans rfl
set_option maxRecDepth 100000 in
theorem dX_invokevirtual {n : Nat} (h : bq2 cc pc 182 (fun a b => Nat.beq (a * 256 + b) n) = true) : decode cc pc = .ok (.invokevirtual n, 3) := by
  obtain ⟨h0, h1, h2, h3⟩ := bq2_of h
  have h3 := Nat.eq_of_beq_eq_true h3
  subst h3
  refine dc_of ?_
  unfold Jvm.ClassFile.Decoder.instr
  rw [bx_b1 h0 (by decide)]
  exact (bx_b2 (K := fun x => Pure.pure (Jvm.ClassFile.Instr.invokevirtual x)) rfl h1 rfl h2).trans rfl
set_option maxRecDepth 100000 in
theorem dX_ldc_w {n : Nat} (h : bq2 cc pc 19 (fun a b => Nat.beq (a * 256 + b) n) = true) : decode cc pc = .ok (.ldc_w n, 3) := by
  obtain ⟨h0, h1, h2, h3⟩ := bq2_of h
  have h3 := Nat.eq_of_beq_eq_true h3
  subst h3
  refine dc_of ?_
  unfold Jvm.ClassFile.Decoder.instr
  rw [bx_b1 h0 (by decide)]
  exact (bx_b2 (K := fun x => Pure.pure (Jvm.ClassFile.Instr.ldc_w x)) rfl h1 rfl h2).trans rfl
set_option maxRecDepth 100000 in
theorem dX_new {n : Nat} (h : bq2 cc pc 187 (fun a b => Nat.beq (a * 256 + b) n) = true) : decode cc pc = .ok (.new n, 3) := by
  obtain ⟨h0, h1, h2, h3⟩ := bq2_of h
  have h3 := Nat.eq_of_beq_eq_true h3
  subst h3
  refine dc_of ?_
  unfold Jvm.ClassFile.Decoder.instr
  rw [bx_b1 h0 (by decide)]
  exact (bx_b2 (K := fun x => Pure.pure (Jvm.ClassFile.Instr.new x)) rfl h1 rfl h2).trans rfl
set_option maxRecDepth 100000 in
theorem dX_putfield {n : Nat} (h : bq2 cc pc 181 (fun a b => Nat.beq (a * 256 + b) n) = true) : decode cc pc = .ok (.putfield n, 3) := by
  obtain ⟨h0, h1, h2, h3⟩ := bq2_of h
  have h3 := Nat.eq_of_beq_eq_true h3
  subst h3
  refine dc_of ?_
  unfold Jvm.ClassFile.Decoder.instr
  rw [bx_b1 h0 (by decide)]
  exact (bx_b2 (K := fun x => Pure.pure (Jvm.ClassFile.Instr.putfield x)) rfl h1 rfl h2).trans rfl
set_option maxRecDepth 100000 in
theorem dX_goto {n : Int} (h : bq2 cc pc 167 (fun a b => decide (Jvm.ClassFile.Reader.signed 16 (a * 256 + b) = n)) = true) : decode cc pc = .ok (.goto n, 3) := by
  obtain ⟨h0, h1, h2, h3⟩ := bq2_of h
  have h3 := of_decide_eq_true h3
  subst h3
  refine dc_of ?_
  unfold Jvm.ClassFile.Decoder.instr
  rw [bx_b1 h0 (by decide)]
  exact (bx_s2 (K := fun x => Pure.pure (Jvm.ClassFile.Instr.goto x)) rfl h1 rfl h2).trans rfl
set_option maxRecDepth 100000 in
theorem dX_if_icmpeq {n : Int} (h : bq2 cc pc 159 (fun a b => decide (Jvm.ClassFile.Reader.signed 16 (a * 256 + b) = n)) = true) : decode cc pc = .ok (.if_icmp .eq n, 3) := by
  obtain ⟨h0, h1, h2, h3⟩ := bq2_of h
  have h3 := of_decide_eq_true h3
  subst h3
  refine dc_of ?_
  unfold Jvm.ClassFile.Decoder.instr
  rw [bx_b1 h0 (by decide)]
  exact (bx_s2 (K := fun x => Pure.pure (Jvm.ClassFile.Instr.if_icmp .eq x)) rfl h1 rfl h2).trans rfl
set_option maxRecDepth 100000 in
theorem dX_if_icmpge {n : Int} (h : bq2 cc pc 162 (fun a b => decide (Jvm.ClassFile.Reader.signed 16 (a * 256 + b) = n)) = true) : decode cc pc = .ok (.if_icmp .ge n, 3) := by
  obtain ⟨h0, h1, h2, h3⟩ := bq2_of h
  have h3 := of_decide_eq_true h3
  subst h3
  refine dc_of ?_
  unfold Jvm.ClassFile.Decoder.instr
  rw [bx_b1 h0 (by decide)]
  exact (bx_s2 (K := fun x => Pure.pure (Jvm.ClassFile.Instr.if_icmp .ge x)) rfl h1 rfl h2).trans rfl
set_option maxRecDepth 100000 in
theorem dX_if_icmpgt {n : Int} (h : bq2 cc pc 163 (fun a b => decide (Jvm.ClassFile.Reader.signed 16 (a * 256 + b) = n)) = true) : decode cc pc = .ok (.if_icmp .gt n, 3) := by
  obtain ⟨h0, h1, h2, h3⟩ := bq2_of h
  have h3 := of_decide_eq_true h3
  subst h3
  refine dc_of ?_
  unfold Jvm.ClassFile.Decoder.instr
  rw [bx_b1 h0 (by decide)]
  exact (bx_s2 (K := fun x => Pure.pure (Jvm.ClassFile.Instr.if_icmp .gt x)) rfl h1 rfl h2).trans rfl
set_option maxRecDepth 100000 in
theorem dX_if_icmple {n : Int} (h : bq2 cc pc 164 (fun a b => decide (Jvm.ClassFile.Reader.signed 16 (a * 256 + b) = n)) = true) : decode cc pc = .ok (.if_icmp .le n, 3) := by
  obtain ⟨h0, h1, h2, h3⟩ := bq2_of h
  have h3 := of_decide_eq_true h3
  subst h3
  refine dc_of ?_
  unfold Jvm.ClassFile.Decoder.instr
  rw [bx_b1 h0 (by decide)]
  exact (bx_s2 (K := fun x => Pure.pure (Jvm.ClassFile.Instr.if_icmp .le x)) rfl h1 rfl h2).trans rfl
set_option maxRecDepth 100000 in
theorem dX_if_icmplt {n : Int} (h : bq2 cc pc 161 (fun a b => decide (Jvm.ClassFile.Reader.signed 16 (a * 256 + b) = n)) = true) : decode cc pc = .ok (.if_icmp .lt n, 3) := by
  obtain ⟨h0, h1, h2, h3⟩ := bq2_of h
  have h3 := of_decide_eq_true h3
  subst h3
  refine dc_of ?_
  unfold Jvm.ClassFile.Decoder.instr
  rw [bx_b1 h0 (by decide)]
  exact (bx_s2 (K := fun x => Pure.pure (Jvm.ClassFile.Instr.if_icmp .lt x)) rfl h1 rfl h2).trans rfl
set_option maxRecDepth 100000 in
theorem dX_if_icmpne {n : Int} (h : bq2 cc pc 160 (fun a b => decide (Jvm.ClassFile.Reader.signed 16 (a * 256 + b) = n)) = true) : decode cc pc = .ok (.if_icmp .ne n, 3) := by
  obtain ⟨h0, h1, h2, h3⟩ := bq2_of h
  have h3 := of_decide_eq_true h3
  subst h3
  refine dc_of ?_
  unfold Jvm.ClassFile.Decoder.instr
  rw [bx_b1 h0 (by decide)]
  exact (bx_s2 (K := fun x => Pure.pure (Jvm.ClassFile.Instr.if_icmp .ne x)) rfl h1 rfl h2).trans rfl
set_option maxRecDepth 100000 in
theorem dX_ifeq {n : Int} (h : bq2 cc pc 153 (fun a b => decide (Jvm.ClassFile.Reader.signed 16 (a * 256 + b) = n)) = true) : decode cc pc = .ok (.ifCond .eq n, 3) := by
  obtain ⟨h0, h1, h2, h3⟩ := bq2_of h
  have h3 := of_decide_eq_true h3
  subst h3
  refine dc_of ?_
  unfold Jvm.ClassFile.Decoder.instr
  rw [bx_b1 h0 (by decide)]
  exact (bx_s2 (K := fun x => Pure.pure (Jvm.ClassFile.Instr.ifCond .eq x)) rfl h1 rfl h2).trans rfl
set_option maxRecDepth 100000 in
theorem dX_ifge {n : Int} (h : bq2 cc pc 156 (fun a b => decide (Jvm.ClassFile.Reader.signed 16 (a * 256 + b) = n)) = true) : decode cc pc = .ok (.ifCond .ge n, 3) := by
  obtain ⟨h0, h1, h2, h3⟩ := bq2_of h
  have h3 := of_decide_eq_true h3
  subst h3
  refine dc_of ?_
  unfold Jvm.ClassFile.Decoder.instr
  rw [bx_b1 h0 (by decide)]
  exact (bx_s2 (K := fun x => Pure.pure (Jvm.ClassFile.Instr.ifCond .ge x)) rfl h1 rfl h2).trans rfl
set_option maxRecDepth 100000 in
theorem dX_ifgt {n : Int} (h : bq2 cc pc 157 (fun a b => decide (Jvm.ClassFile.Reader.signed 16 (a * 256 + b) = n)) = true) : decode cc pc = .ok (.ifCond .gt n, 3) := by
  obtain ⟨h0, h1, h2, h3⟩ := bq2_of h
  have h3 := of_decide_eq_true h3
  subst h3
  refine dc_of ?_
  unfold Jvm.ClassFile.Decoder.instr
  rw [bx_b1 h0 (by decide)]
  exact (bx_s2 (K := fun x => Pure.pure (Jvm.ClassFile.Instr.ifCond .gt x)) rfl h1 rfl h2).trans rfl
set_option maxRecDepth 100000 in
theorem dX_ifle {n : Int} (h : bq2 cc pc 158 (fun a b => decide (Jvm.ClassFile.Reader.signed 16 (a * 256 + b) = n)) = true) : decode cc pc = .ok (.ifCond .le n, 3) := by
  obtain ⟨h0, h1, h2, h3⟩ := bq2_of h
  have h3 := of_decide_eq_true h3
  subst h3
  refine dc_of ?_
  unfold Jvm.ClassFile.Decoder.instr
  rw [bx_b1 h0 (by decide)]
  exact (bx_s2 (K := fun x => Pure.pure (Jvm.ClassFile.Instr.ifCond .le x)) rfl h1 rfl h2).trans rfl
set_option maxRecDepth 100000 in
theorem dX_iflt {n : Int} (h : bq2 cc pc 155 (fun a b => decide (Jvm.ClassFile.Reader.signed 16 (a * 256 + b) = n)) = true) : decode cc pc = .ok (.ifCond .lt n, 3) := by
  obtain ⟨h0, h1, h2, h3⟩ := bq2_of h
  have h3 := of_decide_eq_true h3
  subst h3
  refine dc_of ?_
  unfold Jvm.ClassFile.Decoder.instr
  rw [bx_b1 h0 (by decide)]
  exact (bx_s2 (K := fun x => Pure.pure (Jvm.ClassFile.Instr.ifCond .lt x)) rfl h1 rfl h2).trans rfl
set_option maxRecDepth 100000 in
theorem dX_ifne {n : Int} (h : bq2 cc pc 154 (fun a b => decide (Jvm.ClassFile.Reader.signed 16 (a * 256 + b) = n)) = true) : decode cc pc = .ok (.ifCond .ne n, 3) := by
  obtain ⟨h0, h1, h2, h3⟩ := bq2_of h
  have h3 := of_decide_eq_true h3
  subst h3
  refine dc_of ?_
  unfold Jvm.ClassFile.Decoder.instr
  rw [bx_b1 h0 (by decide)]
  exact (bx_s2 (K := fun x => Pure.pure (Jvm.ClassFile.Instr.ifCond .ne x)) rfl h1 rfl h2).trans rfl
set_option maxRecDepth 100000 in
theorem dX_ifnonnull {n : Int} (h : bq2 cc pc 199 (fun a b => decide (Jvm.ClassFile.Reader.signed 16 (a * 256 + b) = n)) = true) : decode cc pc = .ok (.ifnonnull n, 3) := by
  obtain ⟨h0, h1, h2, h3⟩ := bq2_of h
  have h3 := of_decide_eq_true h3
  subst h3
  refine dc_of ?_
  unfold Jvm.ClassFile.Decoder.instr
  rw [bx_b1 h0 (by decide)]
  exact (bx_s2 (K := fun x => Pure.pure (Jvm.ClassFile.Instr.ifnonnull x)) rfl h1 rfl h2).trans rfl
set_option maxRecDepth 100000 in
theorem dX_ifnull {n : Int} (h : bq2 cc pc 198 (fun a b => decide (Jvm.ClassFile.Reader.signed 16 (a * 256 + b) = n)) = true) : decode cc pc = .ok (.ifnull n, 3) := by
  obtain ⟨h0, h1, h2, h3⟩ := bq2_of h
  have h3 := of_decide_eq_true h3
  subst h3
  refine dc_of ?_
  unfold Jvm.ClassFile.Decoder.instr
  rw [bx_b1 h0 (by decide)]
  exact (bx_s2 (K := fun x => Pure.pure (Jvm.ClassFile.Instr.ifnull x)) rfl h1 rfl h2).trans rfl
set_option maxRecDepth 100000 in
theorem dX_sipush {n : Int} (h : bq2 cc pc 17 (fun a b => decide (Jvm.ClassFile.Reader.signed 16 (a * 256 + b) = n)) = true) : decode cc pc = .ok (.sipush n, 3) := by
  obtain ⟨h0, h1, h2, h3⟩ := bq2_of h
  have h3 := of_decide_eq_true h3
  subst h3
  refine dc_of ?_
  unfold Jvm.ClassFile.Decoder.instr
  rw [bx_b1 h0 (by decide)]
  exact (bx_s2 (K := fun x => Pure.pure (Jvm.ClassFile.Instr.sipush x)) rfl h1 rfl h2).trans rfl
set_option maxRecDepth 100000 in
theorem dX_iinc {i : Nat} {n : Int} (h : bq2 cc pc 132 (fun a b => Nat.beq a i && decide (Jvm.ClassFile.Reader.signed 8 b = n)) = true) : decode cc pc = .ok (.iinc i n, 3) := by
  obtain ⟨h0, h1, h2, h3⟩ := bq2_of h
  rw [Bool.and_eq_true] at h3
  have h4 := Nat.eq_of_beq_eq_true h3.1
  have h5 := of_decide_eq_true h3.2
  subst h4
  subst h5
  refine dc_of ?_
  unfold Jvm.ClassFile.Decoder.instr
  rw [bx_b1 h0 (by decide)]
  exact ((bx_b1 (K := fun x => Bind.bind Jvm.ClassFile.Reader.s1 fun y => Pure.pure (Jvm.ClassFile.Instr.iinc x y)) rfl h1).trans (bx_s1 (K := fun y => Pure.pure (Jvm.ClassFile.Instr.iinc _ y)) rfl h2)).trans rfl
end DEC
