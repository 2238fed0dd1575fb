theorem dc_drop {L : List UInt8} {p : Nat} {a : UInt8} {l : List UInt8} (h : L.drop p = a :: l) : L.drop (p + 1) = l := by
  have e : L.drop (p + 1) = (L.drop p).drop 1 := by rw [List.drop_drop]
  rw [e, h]; rfl
theorem dc_u1 {c : ByteArray} {p : Nat} {b : UInt8} {l : List UInt8} (h : c.data.toList.drop p = b :: l) : (Jvm.ClassFile.Reader.u1 : Jvm.ClassFile.Decoder Nat) c p = .ok (b.toNat, p + 1) := by
  have hl : p < c.data.toList.length := by
    rcases Nat.lt_or_ge p c.data.toList.length with h1 | h1
    · exact h1
    · rw [List.drop_eq_nil_of_le h1] at h; cases h
  have hs : p < c.size := hl
  have hg : c[p]'hs = b := by
    rw [List.drop_eq_getElem_cons hl] at h
    injection h
  have e : (Jvm.ClassFile.Reader.u1 : Jvm.ClassFile.Decoder Nat) c p = (if h : p < c.size then (do set (p + 1); Pure.pure (c[p]'h).toNat : Jvm.ClassFile.Decoder Nat) else throw (Jvm.ClassFile.HasTruncated.truncated p)) c p := rfl
  rw [e, dif_pos hs, hg]; rfl
theorem dc_bind {α β : Type} {c : ByteArray} {p q : Nat} {a : α} {x : Jvm.ClassFile.Decoder α} (f : α → Jvm.ClassFile.Decoder β) (h : x c p = .ok (a, q)) : (x >>= f) c p = f a c q := by
  have e : (x >>= f) c p = Except.bind (x c p) (fun r => f r.1 c r.2) := rfl
  rw [e, h]; rfl
theorem dc_map {α β : Type} {c : ByteArray} {p q : Nat} {a : α} {x : Jvm.ClassFile.Decoder α} (f : α → β) (h : x c p = .ok (a, q)) : (f <$> x : Jvm.ClassFile.Decoder β) c p = .ok (f a, q) := by
  have e : (f <$> x : Jvm.ClassFile.Decoder β) c p = Except.bind (x c p) (fun r => .ok (f r.1, r.2)) := rfl
  rw [e, h]; rfl
theorem dc_u2 {c : ByteArray} {p : Nat} {a b : UInt8} {l : List UInt8} (h : c.data.toList.drop p = a :: b :: l) : (Jvm.ClassFile.Reader.u2 : Jvm.ClassFile.Decoder Nat) c p = .ok (a.toNat * 256 + b.toNat, p + 2) := by
  unfold Jvm.ClassFile.Reader.u2
  rw [dc_bind _ (dc_u1 h), dc_bind _ (dc_u1 (dc_drop h))]; rfl
theorem dc_s1 {c : ByteArray} {p : Nat} {a : UInt8} {l : List UInt8} (h : c.data.toList.drop p = a :: l) : (Jvm.ClassFile.Reader.s1 : Jvm.ClassFile.Decoder Int) c p = .ok (Jvm.ClassFile.Reader.signed 8 a.toNat, p + 1) := by
  unfold Jvm.ClassFile.Reader.s1
  exact dc_map _ (dc_u1 h)
theorem dc_s2 {c : ByteArray} {p : Nat} {a b : UInt8} {l : List UInt8} (h : c.data.toList.drop p = a :: b :: l) : (Jvm.ClassFile.Reader.s2 : Jvm.ClassFile.Decoder Int) c p = .ok (Jvm.ClassFile.Reader.signed 16 (a.toNat * 256 + b.toNat), p + 2) := by
  unfold Jvm.ClassFile.Reader.s2
  exact dc_map _ (dc_u2 h)
theorem dc_fin {c : ByteArray} {p q : Nat} {i : Jvm.ClassFile.Instr} (h : Jvm.ClassFile.Decoder.instr p c p = .ok (i, q)) : decode c p = .ok (i, q - p) := by
  have e : decode c p = Except.bind (Jvm.ClassFile.Decoder.instr p c p) (fun r => .ok (r.1, r.2 - p)) := rfl
  rw [e, h]; rfl
set_option maxRecDepth 100000 in
set_option maxHeartbeats 4000000 in
theorem dc_ex (p : Nat) : ∃ f : Nat → Jvm.ClassFile.Decoder Jvm.ClassFile.Instr, Jvm.ClassFile.Decoder.instr p = (Jvm.ClassFile.Reader.u1 >>= f) ∧
    (f 46 = Pure.pure Jvm.ClassFile.Instr.iaload) ∧
    (f 96 = Pure.pure Jvm.ClassFile.Instr.iadd) ∧
    (f 172 = Pure.pure Jvm.ClassFile.Instr.ireturn) ∧
    (f 79 = Pure.pure Jvm.ClassFile.Instr.iastore) ∧
    (f 87 = Pure.pure Jvm.ClassFile.Instr.pop) ∧
    (f 100 = Pure.pure Jvm.ClassFile.Instr.isub) ∧
    (f 89 = Pure.pure Jvm.ClassFile.Instr.dup) ∧
    (f 104 = Pure.pure Jvm.ClassFile.Instr.imul) ∧
    (f 177 = Pure.pure Jvm.ClassFile.Instr.return_) ∧
    (f 112 = Pure.pure Jvm.ClassFile.Instr.irem) ∧
    (f 50 = Pure.pure Jvm.ClassFile.Instr.aaload) ∧
    (f 126 = Pure.pure Jvm.ClassFile.Instr.iand) ∧
    (f 42 = Pure.pure (Jvm.ClassFile.Instr.aload_n 0)) ∧
    (f 43 = Pure.pure (Jvm.ClassFile.Instr.aload_n 1)) ∧
    (f 44 = Pure.pure (Jvm.ClassFile.Instr.aload_n 2)) ∧
    (f 45 = Pure.pure (Jvm.ClassFile.Instr.aload_n 3)) ∧
    (f 26 = Pure.pure (Jvm.ClassFile.Instr.iload_n 0)) ∧
    (f 27 = Pure.pure (Jvm.ClassFile.Instr.iload_n 1)) ∧
    (f 28 = Pure.pure (Jvm.ClassFile.Instr.iload_n 2)) ∧
    (f 29 = Pure.pure (Jvm.ClassFile.Instr.iload_n 3)) ∧
    (f 59 = Pure.pure (Jvm.ClassFile.Instr.istore_n 0)) ∧
    (f 60 = Pure.pure (Jvm.ClassFile.Instr.istore_n 1)) ∧
    (f 61 = Pure.pure (Jvm.ClassFile.Instr.istore_n 2)) ∧
    (f 62 = Pure.pure (Jvm.ClassFile.Instr.istore_n 3)) ∧
    (f 75 = Pure.pure (Jvm.ClassFile.Instr.astore_n 0)) ∧
    (f 76 = Pure.pure (Jvm.ClassFile.Instr.astore_n 1)) ∧
    (f 77 = Pure.pure (Jvm.ClassFile.Instr.astore_n 2)) ∧
    (f 78 = Pure.pure (Jvm.ClassFile.Instr.astore_n 3)) ∧
    (f 2 = Pure.pure (Jvm.ClassFile.Instr.iconst (-1))) ∧
    (f 3 = Pure.pure (Jvm.ClassFile.Instr.iconst (0))) ∧
    (f 4 = Pure.pure (Jvm.ClassFile.Instr.iconst (1))) ∧
    (f 5 = Pure.pure (Jvm.ClassFile.Instr.iconst (2))) ∧
    (f 6 = Pure.pure (Jvm.ClassFile.Instr.iconst (3))) ∧
    (f 7 = Pure.pure (Jvm.ClassFile.Instr.iconst (4))) ∧
    (f 8 = Pure.pure (Jvm.ClassFile.Instr.iconst (5))) ∧
    (f 180 = (Jvm.ClassFile.Reader.u2 >>= fun x => Pure.pure (Jvm.ClassFile.Instr.getfield x))) ∧
    (f 181 = (Jvm.ClassFile.Reader.u2 >>= fun x => Pure.pure (Jvm.ClassFile.Instr.putfield x))) ∧
    (f 182 = (Jvm.ClassFile.Reader.u2 >>= fun x => Pure.pure (Jvm.ClassFile.Instr.invokevirtual x))) ∧
    (f 184 = (Jvm.ClassFile.Reader.u2 >>= fun x => Pure.pure (Jvm.ClassFile.Instr.invokestatic x))) ∧
    (f 183 = (Jvm.ClassFile.Reader.u2 >>= fun x => Pure.pure (Jvm.ClassFile.Instr.invokespecial x))) ∧
    (f 19 = (Jvm.ClassFile.Reader.u2 >>= fun x => Pure.pure (Jvm.ClassFile.Instr.ldc_w x))) ∧
    (f 21 = (Jvm.ClassFile.Reader.u1 >>= fun x => Pure.pure (Jvm.ClassFile.Instr.iload x))) ∧
    (f 54 = (Jvm.ClassFile.Reader.u1 >>= fun x => Pure.pure (Jvm.ClassFile.Instr.istore x))) ∧
    (f 25 = (Jvm.ClassFile.Reader.u1 >>= fun x => Pure.pure (Jvm.ClassFile.Instr.aload x))) ∧
    (f 18 = (Jvm.ClassFile.Reader.u1 >>= fun x => Pure.pure (Jvm.ClassFile.Instr.ldc x))) ∧
    (f 167 = (Jvm.ClassFile.Reader.s2 >>= fun x => Pure.pure (Jvm.ClassFile.Instr.goto x))) ∧
    (f 17 = (Jvm.ClassFile.Reader.s2 >>= fun x => Pure.pure (Jvm.ClassFile.Instr.sipush x))) ∧
    (f 16 = (Jvm.ClassFile.Reader.s1 >>= fun x => Pure.pure (Jvm.ClassFile.Instr.bipush x))) ∧
    (f 153 = (Jvm.ClassFile.Reader.s2 >>= fun x => Pure.pure (Jvm.ClassFile.Instr.ifCond .eq x))) ∧
    (f 159 = (Jvm.ClassFile.Reader.s2 >>= fun x => Pure.pure (Jvm.ClassFile.Instr.if_icmp .eq x))) ∧
    (f 154 = (Jvm.ClassFile.Reader.s2 >>= fun x => Pure.pure (Jvm.ClassFile.Instr.ifCond .ne x))) ∧
    (f 160 = (Jvm.ClassFile.Reader.s2 >>= fun x => Pure.pure (Jvm.ClassFile.Instr.if_icmp .ne x))) ∧
    (f 155 = (Jvm.ClassFile.Reader.s2 >>= fun x => Pure.pure (Jvm.ClassFile.Instr.ifCond .lt x))) ∧
    (f 161 = (Jvm.ClassFile.Reader.s2 >>= fun x => Pure.pure (Jvm.ClassFile.Instr.if_icmp .lt x))) ∧
    (f 156 = (Jvm.ClassFile.Reader.s2 >>= fun x => Pure.pure (Jvm.ClassFile.Instr.ifCond .ge x))) ∧
    (f 162 = (Jvm.ClassFile.Reader.s2 >>= fun x => Pure.pure (Jvm.ClassFile.Instr.if_icmp .ge x))) ∧
    (f 157 = (Jvm.ClassFile.Reader.s2 >>= fun x => Pure.pure (Jvm.ClassFile.Instr.ifCond .gt x))) ∧
    (f 163 = (Jvm.ClassFile.Reader.s2 >>= fun x => Pure.pure (Jvm.ClassFile.Instr.if_icmp .gt x))) ∧
    (f 158 = (Jvm.ClassFile.Reader.s2 >>= fun x => Pure.pure (Jvm.ClassFile.Instr.ifCond .le x))) ∧
    (f 164 = (Jvm.ClassFile.Reader.s2 >>= fun x => Pure.pure (Jvm.ClassFile.Instr.if_icmp .le x))) ∧
    (f 132 = (Jvm.ClassFile.Reader.u1 >>= fun x => Jvm.ClassFile.Reader.s1 >>= fun y => Pure.pure (Jvm.ClassFile.Instr.iinc x y))) :=
  ⟨_, rfl, rfl, rfl, rfl, rfl, rfl, rfl, rfl, rfl, rfl, rfl, rfl, rfl, rfl, rfl, rfl, rfl, rfl, rfl, rfl, rfl, rfl, rfl, rfl, rfl, rfl, rfl, rfl, rfl, rfl, rfl, rfl, rfl, rfl, rfl, rfl, rfl, rfl, rfl, rfl, rfl, rfl, rfl, rfl, rfl, rfl, rfl, rfl, rfl, rfl, rfl, rfl, rfl, rfl, rfl, rfl, rfl, rfl, rfl, rfl, rfl, rfl⟩
theorem dc_1 {c : ByteArray} {p : Nat} {a : UInt8} {l : List UInt8} {k : Nat} {i : Jvm.ClassFile.Instr} {f : Nat → Jvm.ClassFile.Decoder Jvm.ClassFile.Instr} (hI : Jvm.ClassFile.Decoder.instr p = (Jvm.ClassFile.Reader.u1 >>= f)) (hf : f k = Pure.pure i) (h : c.data.toList.drop p = a :: l) (hk : a.toNat = k) : decode c p = .ok (i, 1) := by
  have e : Jvm.ClassFile.Decoder.instr p c p = .ok (i, p + 1) := by
    rw [hI, dc_bind _ (dc_u1 h), hk, hf]; rfl
  rw [dc_fin e, Nat.add_sub_cancel_left]
theorem dc_2 {γ : Type} {c : ByteArray} {p n : Nat} {a : UInt8} {l : List UInt8} {k : Nat} {x : γ} {r : Jvm.ClassFile.Decoder γ} {i : γ → Jvm.ClassFile.Instr} {f : Nat → Jvm.ClassFile.Decoder Jvm.ClassFile.Instr} (hI : Jvm.ClassFile.Decoder.instr p = (Jvm.ClassFile.Reader.u1 >>= f)) (hf : f k = (r >>= fun x => Pure.pure (i x))) (h : c.data.toList.drop p = a :: l) (hk : a.toNat = k) (hr : r c (p + 1) = .ok (x, p + 1 + n)) : decode c p = .ok (i x, n + 1) := by
  have e : Jvm.ClassFile.Decoder.instr p c p = .ok (i x, p + (n + 1)) := by
    rw [hI, dc_bind _ (dc_u1 h), hk, hf, dc_bind _ hr]
    have e : p + 1 + n = p + (n + 1) := by omega
    rw [e]; rfl
  rw [dc_fin e, Nat.add_sub_cancel_left]
theorem dc_3 {c : ByteArray} {p : Nat} {a b d : UInt8} {l : List UInt8} {f : Nat → Jvm.ClassFile.Decoder Jvm.ClassFile.Instr} (hI : Jvm.ClassFile.Decoder.instr p = (Jvm.ClassFile.Reader.u1 >>= f)) (hf : f 132 = (Jvm.ClassFile.Reader.u1 >>= fun x => Jvm.ClassFile.Reader.s1 >>= fun y => Pure.pure (Jvm.ClassFile.Instr.iinc x y))) (h : c.data.toList.drop p = a :: b :: d :: l) (hk : a.toNat = 132) : decode c p = .ok (.iinc b.toNat (Jvm.ClassFile.Reader.signed 8 d.toNat), 3) := by
  have e : Jvm.ClassFile.Decoder.instr p c p = .ok (.iinc b.toNat (Jvm.ClassFile.Reader.signed 8 d.toNat), p + 3) := by
    rw [hI, dc_bind _ (dc_u1 h), hk, hf, dc_bind _ (dc_u1 (dc_drop h)), dc_bind _ (dc_s1 (dc_drop (dc_drop h)))]; rfl
  rw [dc_fin e, Nat.add_sub_cancel_left]
def ck_1 (k : Nat) (n : Nat) (l : List UInt8) : Bool := match l with
  | a :: _ => Nat.beq n 1 && Nat.beq a.toNat k
  | [] => false
def ck_u (k : Nat) (x : Nat) (n : Nat) (l : List UInt8) : Bool := match l with
  | a :: b :: _ => Nat.beq n 2 && (Nat.beq a.toNat k && Nat.beq b.toNat x)
  | _ => false
def ck_U (k : Nat) (x : Nat) (n : Nat) (l : List UInt8) : Bool := match l with
  | a :: b :: d :: _ => Nat.beq n 3 && (Nat.beq a.toNat k && Nat.beq (b.toNat * 256 + d.toNat) x)
  | _ => false
def ck_s (k : Nat) (x : Int) (n : Nat) (l : List UInt8) : Bool := match l with
  | a :: b :: _ => Nat.beq n 2 && (Nat.beq a.toNat k && decide (Jvm.ClassFile.Reader.signed 8 b.toNat = x))
  | _ => false
def ck_S (k : Nat) (x : Int) (n : Nat) (l : List UInt8) : Bool := match l with
  | a :: b :: d :: _ => Nat.beq n 3 && (Nat.beq a.toNat k && decide (Jvm.ClassFile.Reader.signed 16 (b.toNat * 256 + d.toNat) = x))
  | _ => false
def ck_i (x : Nat) (y : Int) (n : Nat) (l : List UInt8) : Bool := match l with
  | a :: b :: d :: _ => Nat.beq n 3 && (Nat.beq a.toNat 132 && (Nat.beq b.toNat x && decide (Jvm.ClassFile.Reader.signed 8 d.toNat = y)))
  | _ => false
theorem ck_1o {c : ByteArray} {p k n : Nat} {l : List UInt8} {i : Jvm.ClassFile.Instr} {f : Nat → Jvm.ClassFile.Decoder Jvm.ClassFile.Instr} (hI : Jvm.ClassFile.Decoder.instr p = (Jvm.ClassFile.Reader.u1 >>= f)) (h : c.data.toList.drop p = l) (hc : ck_1 k n l = true) (hf : f k = Pure.pure i) : decode c p = .ok (i, n) := by
  cases l with
  | nil => cases hc
  | cons a l =>
    have hc : (Nat.beq n 1 && Nat.beq a.toNat k) = true := hc
    rw [Bool.and_eq_true] at hc
    rw [Nat.eq_of_beq_eq_true hc.1]
    exact dc_1 hI hf h (Nat.eq_of_beq_eq_true hc.2)
theorem ck_uo {c : ByteArray} {p k n x : Nat} {l : List UInt8} {i : Nat → Jvm.ClassFile.Instr} {f : Nat → Jvm.ClassFile.Decoder Jvm.ClassFile.Instr} (hI : Jvm.ClassFile.Decoder.instr p = (Jvm.ClassFile.Reader.u1 >>= f)) (h : c.data.toList.drop p = l) (hc : ck_u k x n l = true) (hf : f k = (Jvm.ClassFile.Reader.u1 >>= fun x => Pure.pure (i x))) : decode c p = .ok (i x, n) := by
  match l, h, hc with
  | a :: b :: l, h, hc =>
    have hc : (Nat.beq n 2 && (Nat.beq a.toNat k && Nat.beq b.toNat x)) = true := hc
    rw [Bool.and_eq_true, Bool.and_eq_true] at hc
    rw [Nat.eq_of_beq_eq_true hc.1, ← Nat.eq_of_beq_eq_true hc.2.2]
    exact dc_2 (n := 1) hI hf h (Nat.eq_of_beq_eq_true hc.2.1) (dc_u1 (dc_drop h))
theorem ck_Uo {c : ByteArray} {p k n x : Nat} {l : List UInt8} {i : Nat → Jvm.ClassFile.Instr} {f : Nat → Jvm.ClassFile.Decoder Jvm.ClassFile.Instr} (hI : Jvm.ClassFile.Decoder.instr p = (Jvm.ClassFile.Reader.u1 >>= f)) (h : c.data.toList.drop p = l) (hc : ck_U k x n l = true) (hf : f k = (Jvm.ClassFile.Reader.u2 >>= fun x => Pure.pure (i x))) : decode c p = .ok (i x, n) := by
  match l, h, hc with
  | a :: b :: d :: l, h, hc =>
    have hc : (Nat.beq n 3 && (Nat.beq a.toNat k && Nat.beq (b.toNat * 256 + d.toNat) x)) = true := hc
    rw [Bool.and_eq_true, Bool.and_eq_true] at hc
    rw [Nat.eq_of_beq_eq_true hc.1, ← Nat.eq_of_beq_eq_true hc.2.2]
    exact dc_2 (n := 2) hI hf h (Nat.eq_of_beq_eq_true hc.2.1) (dc_u2 (dc_drop h))
theorem ck_so {c : ByteArray} {p k n : Nat} {x : Int} {l : List UInt8} {i : Int → Jvm.ClassFile.Instr} {f : Nat → Jvm.ClassFile.Decoder Jvm.ClassFile.Instr} (hI : Jvm.ClassFile.Decoder.instr p = (Jvm.ClassFile.Reader.u1 >>= f)) (h : c.data.toList.drop p = l) (hc : ck_s k x n l = true) (hf : f k = (Jvm.ClassFile.Reader.s1 >>= fun x => Pure.pure (i x))) : decode c p = .ok (i x, n) := by
  match l, h, hc with
  | a :: b :: l, h, hc =>
    have hc : (Nat.beq n 2 && (Nat.beq a.toNat k && decide (Jvm.ClassFile.Reader.signed 8 b.toNat = x))) = true := hc
    rw [Bool.and_eq_true, Bool.and_eq_true] at hc
    rw [Nat.eq_of_beq_eq_true hc.1, ← of_decide_eq_true hc.2.2]
    exact dc_2 (n := 1) hI hf h (Nat.eq_of_beq_eq_true hc.2.1) (dc_s1 (dc_drop h))
theorem ck_So {c : ByteArray} {p k n : Nat} {x : Int} {l : List UInt8} {i : Int → Jvm.ClassFile.Instr} {f : Nat → Jvm.ClassFile.Decoder Jvm.ClassFile.Instr} (hI : Jvm.ClassFile.Decoder.instr p = (Jvm.ClassFile.Reader.u1 >>= f)) (h : c.data.toList.drop p = l) (hc : ck_S k x n l = true) (hf : f k = (Jvm.ClassFile.Reader.s2 >>= fun x => Pure.pure (i x))) : decode c p = .ok (i x, n) := by
  match l, h, hc with
  | a :: b :: d :: l, h, hc =>
    have hc : (Nat.beq n 3 && (Nat.beq a.toNat k && decide (Jvm.ClassFile.Reader.signed 16 (b.toNat * 256 + d.toNat) = x))) = true := hc
    rw [Bool.and_eq_true, Bool.and_eq_true] at hc
    rw [Nat.eq_of_beq_eq_true hc.1, ← of_decide_eq_true hc.2.2]
    exact dc_2 (n := 2) hI hf h (Nat.eq_of_beq_eq_true hc.2.1) (dc_s2 (dc_drop h))
theorem ck_io {c : ByteArray} {p n x : Nat} {y : Int} {l : List UInt8} {f : Nat → Jvm.ClassFile.Decoder Jvm.ClassFile.Instr} (hI : Jvm.ClassFile.Decoder.instr p = (Jvm.ClassFile.Reader.u1 >>= f)) (h : c.data.toList.drop p = l) (hc : ck_i x y n l = true) (hf : f 132 = (Jvm.ClassFile.Reader.u1 >>= fun x => Jvm.ClassFile.Reader.s1 >>= fun y => Pure.pure (Jvm.ClassFile.Instr.iinc x y))) : decode c p = .ok (.iinc x y, n) := by
  match l, h, hc with
  | a :: b :: d :: l, h, hc =>
    have hc : (Nat.beq n 3 && (Nat.beq a.toNat 132 && (Nat.beq b.toNat x && decide (Jvm.ClassFile.Reader.signed 8 d.toNat = y)))) = true := hc
    rw [Bool.and_eq_true, Bool.and_eq_true, Bool.and_eq_true] at hc
    rw [Nat.eq_of_beq_eq_true hc.1, ← Nat.eq_of_beq_eq_true hc.2.2.1, ← of_decide_eq_true hc.2.2.2]
    exact dc_3 hI hf h (Nat.eq_of_beq_eq_true hc.2.1)
def ckw (i : Jvm.ClassFile.Instr) (n : Nat) (l : List UInt8) : Bool := match i with
  | .iaload => ck_1 46 n l
  | .iadd => ck_1 96 n l
  | .ireturn => ck_1 172 n l
  | .iastore => ck_1 79 n l
  | .pop => ck_1 87 n l
  | .isub => ck_1 100 n l
  | .dup => ck_1 89 n l
  | .imul => ck_1 104 n l
  | .return_ => ck_1 177 n l
  | .irem => ck_1 112 n l
  | .aaload => ck_1 50 n l
  | .iand => ck_1 126 n l
  | .aload_n k => ck_1 (42 + k.val) n l
  | .iload_n k => ck_1 (26 + k.val) n l
  | .istore_n k => ck_1 (59 + k.val) n l
  | .astore_n k => ck_1 (75 + k.val) n l
  | .iconst v => decide (-1 ≤ v ∧ v ≤ 5) && ck_1 (v + 3).toNat n l
  | .getfield x => ck_U 180 x n l
  | .putfield x => ck_U 181 x n l
  | .invokevirtual x => ck_U 182 x n l
  | .invokestatic x => ck_U 184 x n l
  | .invokespecial x => ck_U 183 x n l
  | .ldc_w x => ck_U 19 x n l
  | .iload x => ck_u 21 x n l
  | .istore x => ck_u 54 x n l
  | .aload x => ck_u 25 x n l
  | .ldc x => ck_u 18 x n l
  | .goto x => ck_S 167 x n l
  | .sipush x => ck_S 17 x n l
  | .bipush x => ck_s 16 x n l
  | .ifCond o x => match o with
    | .eq => ck_S 153 x n l
    | .ne => ck_S 154 x n l
    | .lt => ck_S 155 x n l
    | .ge => ck_S 156 x n l
    | .gt => ck_S 157 x n l
    | .le => ck_S 158 x n l
  | .if_icmp o x => match o with
    | .eq => ck_S 159 x n l
    | .ne => ck_S 160 x n l
    | .lt => ck_S 161 x n l
    | .ge => ck_S 162 x n l
    | .gt => ck_S 163 x n l
    | .le => ck_S 164 x n l
  | .iinc x y => ck_i x y n l
  | _ => false
set_option maxRecDepth 100000 in
set_option maxHeartbeats 4000000 in
theorem ckw_ok {c : ByteArray} {p n : Nat} {l : List UInt8} (i : Jvm.ClassFile.Instr) (h : c.data.toList.drop p = l) (hc : ckw i n l = true) : decode c p = .ok (i, n) := by
  obtain ⟨f, hI, e0, e1, e2, e3, e4, e5, e6, e7, e8, e9, e10, e11, e12, e13, e14, e15, e16, e17, e18, e19, e20, e21, e22, e23, e24, e25, e26, e27, e28, e29, e30, e31, e32, e33, e34, e35, e36, e37, e38, e39, e40, e41, e42, e43, e44, e45, e46, e47, e48, e49, e50, e51, e52, e53, e54, e55, e56, e57, e58, e59, e60⟩ := dc_ex p
  cases i
  case iaload => exact ck_1o hI h hc e0
  case iadd => exact ck_1o hI h hc e1
  case ireturn => exact ck_1o hI h hc e2
  case iastore => exact ck_1o hI h hc e3
  case pop => exact ck_1o hI h hc e4
  case isub => exact ck_1o hI h hc e5
  case dup => exact ck_1o hI h hc e6
  case imul => exact ck_1o hI h hc e7
  case return_ => exact ck_1o hI h hc e8
  case irem => exact ck_1o hI h hc e9
  case aaload => exact ck_1o hI h hc e10
  case iand => exact ck_1o hI h hc e11
  case aload_n k =>
    match k, hc with
    | ⟨0, _⟩, hc => exact ck_1o hI h (k := 42) hc e12
    | ⟨1, _⟩, hc => exact ck_1o hI h (k := 43) hc e13
    | ⟨2, _⟩, hc => exact ck_1o hI h (k := 44) hc e14
    | ⟨3, _⟩, hc => exact ck_1o hI h (k := 45) hc e15
  case iload_n k =>
    match k, hc with
    | ⟨0, _⟩, hc => exact ck_1o hI h (k := 26) hc e16
    | ⟨1, _⟩, hc => exact ck_1o hI h (k := 27) hc e17
    | ⟨2, _⟩, hc => exact ck_1o hI h (k := 28) hc e18
    | ⟨3, _⟩, hc => exact ck_1o hI h (k := 29) hc e19
  case istore_n k =>
    match k, hc with
    | ⟨0, _⟩, hc => exact ck_1o hI h (k := 59) hc e20
    | ⟨1, _⟩, hc => exact ck_1o hI h (k := 60) hc e21
    | ⟨2, _⟩, hc => exact ck_1o hI h (k := 61) hc e22
    | ⟨3, _⟩, hc => exact ck_1o hI h (k := 62) hc e23
  case astore_n k =>
    match k, hc with
    | ⟨0, _⟩, hc => exact ck_1o hI h (k := 75) hc e24
    | ⟨1, _⟩, hc => exact ck_1o hI h (k := 76) hc e25
    | ⟨2, _⟩, hc => exact ck_1o hI h (k := 77) hc e26
    | ⟨3, _⟩, hc => exact ck_1o hI h (k := 78) hc e27
  case iconst v =>
    have hc : (decide (-1 ≤ v ∧ v ≤ 5) && ck_1 (v + 3).toNat n l) = true := hc
    rw [Bool.and_eq_true] at hc
    have hv := of_decide_eq_true hc.1
    have hv : v = -1 ∨ v = 0 ∨ v = 1 ∨ v = 2 ∨ v = 3 ∨ v = 4 ∨ v = 5 := by omega
    have hc := hc.2
    rcases hv with e | e | e | e | e | e | e <;> subst e
    · exact ck_1o hI h (k := 2) hc e28
    · exact ck_1o hI h (k := 3) hc e29
    · exact ck_1o hI h (k := 4) hc e30
    · exact ck_1o hI h (k := 5) hc e31
    · exact ck_1o hI h (k := 6) hc e32
    · exact ck_1o hI h (k := 7) hc e33
    · exact ck_1o hI h (k := 8) hc e34
  case getfield x => exact ck_Uo hI h hc e35
  case putfield x => exact ck_Uo hI h hc e36
  case invokevirtual x => exact ck_Uo hI h hc e37
  case invokestatic x => exact ck_Uo hI h hc e38
  case invokespecial x => exact ck_Uo hI h hc e39
  case ldc_w x => exact ck_Uo hI h hc e40
  case iload x => exact ck_uo hI h hc e41
  case istore x => exact ck_uo hI h hc e42
  case aload x => exact ck_uo hI h hc e43
  case ldc x => exact ck_uo hI h hc e44
  case goto x => exact ck_So hI h hc e45
  case sipush x => exact ck_So hI h hc e46
  case bipush x => exact ck_so hI h hc e47
  case ifCond o x =>
    cases o
    case eq => exact ck_So hI h hc e48
    case ne => exact ck_So hI h hc e50
    case lt => exact ck_So hI h hc e52
    case ge => exact ck_So hI h hc e54
    case gt => exact ck_So hI h hc e56
    case le => exact ck_So hI h hc e58
  case if_icmp o x =>
    cases o
    case eq => exact ck_So hI h hc e49
    case ne => exact ck_So hI h hc e51
    case lt => exact ck_So hI h hc e53
    case ge => exact ck_So hI h hc e55
    case gt => exact ck_So hI h hc e57
    case le => exact ck_So hI h hc e59
  case iinc x y => exact ck_io hI h hc e60
  all_goals exact absurd hc Bool.false_ne_true
noncomputable def chk (L : List (Nat × Jvm.ClassFile.Instr × Nat)) : Nat → List UInt8 → Bool := L.rec (fun _ _ => true) (fun x _ ih p l => Nat.ble p x.1 && (ckw x.2.1 x.2.2 (l.drop (x.1 - p)) && ih x.1 (l.drop (x.1 - p))))
theorem chk_ok {c : ByteArray} : ∀ (L : List (Nat × Jvm.ClassFile.Instr × Nat)) (p : Nat) (l : List UInt8), c.data.toList.drop p = l → chk L p l = true → ∀ x ∈ L, decode c x.1 = .ok x.2 := by
  intro L
  induction L with
  | nil => intro p l hl h x hx; cases hx
  | cons y r ih =>
    intro p l hl h x hx
    have h : (Nat.ble p y.1 && (ckw y.2.1 y.2.2 (l.drop (y.1 - p)) && chk r y.1 (l.drop (y.1 - p)))) = true := h
    rw [Bool.and_eq_true, Bool.and_eq_true] at h
    have h1 := Nat.le_of_ble_eq_true h.1
    have e : c.data.toList.drop y.1 = l.drop (y.1 - p) := by
      rw [← hl, List.drop_drop]
      congr 1
      omega
    cases hx with
    | head => exact ckw_ok y.2.1 e h.2.1
    | tail _ hx => exact ih y.1 _ e h.2.2 x hx
