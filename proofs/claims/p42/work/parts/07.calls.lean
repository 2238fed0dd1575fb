/-! ROWS, the second text: numbers, branches, entry and end of a method, calls, new cells -/
def rb_ (ty : FieldType) (v : Int32) (K : Prop) : Prop := narrow ty (.int v) = .int v ∧ K
theorem lt_x {α : Type} {v : α} {K : α → Prop} (h : lt_ v K) : ∃ z, z = v ∧ K z := ⟨v, rfl, h⟩
section RX
variable {p : Program} {l : Launch} {e : Env} {R : Room} {s : State} {m : MethodId} {args : Array Value} {below : List Frame} {meth : Method} {c : Code} {H : Heap} {locs : List Loc} {cells slots : Nat} {Q : State → Prop}
variable {cc : ByteArray} {pc nL : Nat} {ls : Array Slot} {rest : List Value} {own : String}
variable {g : GX} {N : Nat} {ln : Nat → Nat} {S : HC}
theorem r_iadd (F : CallFix p m c cc nL s args gtbl own) {x y : Int32} (hdg : decode cc pc = .ok (.iadd, 1)) {K : Int32 → Prop} (h : lt_ (x + y) K) (kk : ∀ z, K z → W p l e R s m args below meth c H locs cells slots Q (F0 m (pc + 1) ls (.int z :: rest))) : W p l e R s m args below meth c H locs cells slots Q (F0 m pc ls (.int y :: .int x :: rest)) := lv_iadd F.1 F.2.1 hdg (kk _ h)
theorem r_isub (F : CallFix p m c cc nL s args gtbl own) {x y : Int32} (hdg : decode cc pc = .ok (.isub, 1)) {K : Int32 → Prop} (h : lt_ (x - y) K) (kk : ∀ z, K z → W p l e R s m args below meth c H locs cells slots Q (F0 m (pc + 1) ls (.int z :: rest))) : W p l e R s m args below meth c H locs cells slots Q (F0 m pc ls (.int y :: .int x :: rest)) := lv_isub F.1 F.2.1 hdg (kk _ h)
theorem r_imul (F : CallFix p m c cc nL s args gtbl own) {x y : Int32} (hdg : decode cc pc = .ok (.imul, 1)) {K : Int32 → Prop} (h : lt_ (x * y) K) (kk : ∀ z, K z → W p l e R s m args below meth c H locs cells slots Q (F0 m (pc + 1) ls (.int z :: rest))) : W p l e R s m args below meth c H locs cells slots Q (F0 m pc ls (.int y :: .int x :: rest)) := lv_imul F.1 F.2.1 hdg (kk _ h)
theorem r_iand (F : CallFix p m c cc nL s args gtbl own) {x y : Int32} (hdg : decode cc pc = .ok (.iand, 1)) {K : Int32 → Prop} (h : lt_ (x &&& y) K) (kk : ∀ z, K z → W p l e R s m args below meth c H locs cells slots Q (F0 m (pc + 1) ls (.int z :: rest))) : W p l e R s m args below meth c H locs cells slots Q (F0 m pc ls (.int y :: .int x :: rest)) := lv_iand F.1 F.2.1 hdg (kk _ h)
theorem r_ior (F : CallFix p m c cc nL s args gtbl own) {x y : Int32} (hdg : decode cc pc = .ok (.ior, 1)) {K : Int32 → Prop} (h : lt_ (x ||| y) K) (kk : ∀ z, K z → W p l e R s m args below meth c H locs cells slots Q (F0 m (pc + 1) ls (.int z :: rest))) : W p l e R s m args below meth c H locs cells slots Q (F0 m pc ls (.int y :: .int x :: rest)) := lv_ior F.1 F.2.1 hdg (kk _ h)
theorem r_ishl (F : CallFix p m c cc nL s args gtbl own) {x y : Int32} (hdg : decode cc pc = .ok (.ishl, 1)) {K : Int32 → Prop} (h : lt_ (x <<< (y &&& 31)) K) (kk : ∀ z, K z → W p l e R s m args below meth c H locs cells slots Q (F0 m (pc + 1) ls (.int z :: rest))) : W p l e R s m args below meth c H locs cells slots Q (F0 m pc ls (.int y :: .int x :: rest)) := lv_ishl F.1 F.2.1 hdg (kk _ h)
theorem r_ishr (F : CallFix p m c cc nL s args gtbl own) {x y : Int32} (hdg : decode cc pc = .ok (.ishr, 1)) {K : Int32 → Prop} (h : lt_ (x >>> (y &&& 31)) K) (kk : ∀ z, K z → W p l e R s m args below meth c H locs cells slots Q (F0 m (pc + 1) ls (.int z :: rest))) : W p l e R s m args below meth c H locs cells slots Q (F0 m pc ls (.int y :: .int x :: rest)) := lv_ishr F.1 F.2.1 hdg (kk _ h)
theorem r_iushr (F : CallFix p m c cc nL s args gtbl own) {x y : Int32} (hdg : decode cc pc = .ok (.iushr, 1)) {K : Int32 → Prop} (h : lt_ ((x.toUInt32 >>> (y.toUInt32 &&& Int32.toUInt32 31)).toInt32) K) (kk : ∀ z, K z → W p l e R s m args below meth c H locs cells slots Q (F0 m (pc + 1) ls (.int z :: rest))) : W p l e R s m args below meth c H locs cells slots Q (F0 m pc ls (.int y :: .int x :: rest)) := lv_iushr F.1 F.2.1 hdg rfl (kk _ h)
theorem r_idiv (F : CallFix p m c cc nL s args gtbl own) {x y : Int32} (hdg : decode cc pc = .ok (.idiv, 1)) {K : Int32 → Prop} (h : ne_ y (lt_ (x / y) K)) (kk : ∀ z, K z → W p l e R s m args below meth c H locs cells slots Q (F0 m (pc + 1) ls (.int z :: rest))) : W p l e R s m args below meth c H locs cells slots Q (F0 m pc ls (.int y :: .int x :: rest)) := lv_idiv F.1 F.2.1 hdg h.1 (kk _ h.2)
theorem r_irem (F : CallFix p m c cc nL s args gtbl own) {x y : Int32} (hdg : decode cc pc = .ok (.irem, 1)) {K : Int32 → Prop} (h : ne_ y (lt_ (x - x / y * y) K)) (kk : ∀ z, K z → W p l e R s m args below meth c H locs cells slots Q (F0 m (pc + 1) ls (.int z :: rest))) : W p l e R s m args below meth c H locs cells slots Q (F0 m pc ls (.int y :: .int x :: rest)) := lv_irem F.1 F.2.1 hdg h.1 (kk _ h.2)
theorem r_ladd (F : CallFix p m c cc nL s args gtbl own) {x y : Int64} (hdg : decode cc pc = .ok (.ladd, 1)) {K : Int64 → Prop} (h : lt_ (x + y) K) (kk : ∀ z, K z → W p l e R s m args below meth c H locs cells slots Q (F0 m (pc + 1) ls (.long z :: rest))) : W p l e R s m args below meth c H locs cells slots Q (F0 m pc ls (.long y :: .long x :: rest)) := lv_ladd F.1 F.2.1 hdg (kk _ h)
theorem r_lsub (F : CallFix p m c cc nL s args gtbl own) {x y : Int64} (hdg : decode cc pc = .ok (.lsub, 1)) {K : Int64 → Prop} (h : lt_ (x - y) K) (kk : ∀ z, K z → W p l e R s m args below meth c H locs cells slots Q (F0 m (pc + 1) ls (.long z :: rest))) : W p l e R s m args below meth c H locs cells slots Q (F0 m pc ls (.long y :: .long x :: rest)) := lv_lsub F.1 F.2.1 hdg (kk _ h)
theorem r_lor (F : CallFix p m c cc nL s args gtbl own) {x y : Int64} (hdg : decode cc pc = .ok (.lor, 1)) {K : Int64 → Prop} (h : lt_ (x ||| y) K) (kk : ∀ z, K z → W p l e R s m args below meth c H locs cells slots Q (F0 m (pc + 1) ls (.long z :: rest))) : W p l e R s m args below meth c H locs cells slots Q (F0 m pc ls (.long y :: .long x :: rest)) := lv_lor F.1 F.2.1 hdg (kk _ h)
theorem r_lshl (F : CallFix p m c cc nL s args gtbl own) {x : Int64} {y : Int32} (hdg : decode cc pc = .ok (.lshl, 1)) {K : Int64 → Prop} (h : lt_ (x <<< (y.toInt64 &&& 63)) K) (kk : ∀ z, K z → W p l e R s m args below meth c H locs cells slots Q (F0 m (pc + 1) ls (.long z :: rest))) : W p l e R s m args below meth c H locs cells slots Q (F0 m pc ls (.int y :: .long x :: rest)) := lv_lshl F.1 F.2.1 hdg rfl (kk _ h)
theorem r_lcmp (F : CallFix p m c cc nL s args gtbl own) {x y : Int64} (hdg : decode cc pc = .ok (.lcmp, 1)) {K : Int32 → Prop} (h : lt_ (lg_cmp x y) K) (kk : ∀ z, K z → W p l e R s m args below meth c H locs cells slots Q (F0 m (pc + 1) ls (.int z :: rest))) : W p l e R s m args below meth c H locs cells slots Q (F0 m pc ls (.long y :: .long x :: rest)) := W.lcmp F.1 F.2.1 hdg (kk _ h)
theorem r_lneg (F : CallFix p m c cc nL s args gtbl own) {x : Int64} (hdg : decode cc pc = .ok (.lneg, 1)) {K : Int64 → Prop} (h : lt_ (-x) K) (kk : ∀ z, K z → W p l e R s m args below meth c H locs cells slots Q (F0 m (pc + 1) ls (.long z :: rest))) : W p l e R s m args below meth c H locs cells slots Q (F0 m pc ls (.long x :: rest)) := lv_lneg F.1 F.2.1 hdg (kk _ h)
theorem r_i2l (F : CallFix p m c cc nL s args gtbl own) {x : Int32} (hdg : decode cc pc = .ok (.i2l, 1)) {K : Int64 → Prop} (h : lt_ (x.toInt64) K) (kk : ∀ z, K z → W p l e R s m args below meth c H locs cells slots Q (F0 m (pc + 1) ls (.long z :: rest))) : W p l e R s m args below meth c H locs cells slots Q (F0 m pc ls (.int x :: rest)) := lv_i2l F.1 F.2.1 hdg rfl (kk _ h)
theorem r_l2i (F : CallFix p m c cc nL s args gtbl own) {x : Int64} (hdg : decode cc pc = .ok (.l2i, 1)) {K : Int32 → Prop} (h : lt_ (x.toInt32) K) (kk : ∀ z, K z → W p l e R s m args below meth c H locs cells slots Q (F0 m (pc + 1) ls (.int z :: rest))) : W p l e R s m args below meth c H locs cells slots Q (F0 m pc ls (.long x :: rest)) := lv_l2i F.1 F.2.1 hdg rfl (kk _ h)
theorem r_i2s (F : CallFix p m c cc nL s args gtbl own) {x : Int32} (hdg : decode cc pc = .ok (.i2s, 1)) {K : Int32 → Prop} (h : lt_ (x.toInt16.toInt32) K) (kk : ∀ z, K z → W p l e R s m args below meth c H locs cells slots Q (F0 m (pc + 1) ls (.int z :: rest))) : W p l e R s m args below meth c H locs cells slots Q (F0 m pc ls (.int x :: rest)) := lv_i2s F.1 F.2.1 hdg rfl (kk _ h)
theorem r_i2c (F : CallFix p m c cc nL s args gtbl own) {x : Int32} (hdg : decode cc pc = .ok (.i2c, 1)) {K : Int32 → Prop} (h : lt_ ((x.toUInt32 % 65536).toInt32) K) (kk : ∀ z, K z → W p l e R s m args below meth c H locs cells slots Q (F0 m (pc + 1) ls (.int z :: rest))) : W p l e R s m args below meth c H locs cells slots Q (F0 m pc ls (.int x :: rest)) := lv_i2c F.1 F.2.1 hdg rfl (kk _ h)
theorem r_i2b (F : CallFix p m c cc nL s args gtbl own) {x : Int32} (hdg : decode cc pc = .ok (.i2b, 1)) {K : Int32 → Prop} (h : lt_ (x.toInt8.toInt32) K) (kk : ∀ z, K z → W p l e R s m args below meth c H locs cells slots Q (F0 m (pc + 1) ls (.int z :: rest))) : W p l e R s m args below meth c H locs cells slots Q (F0 m pc ls (.int x :: rest)) := lv_i2b F.1 F.2.1 hdg rfl (kk _ h)
theorem r_if_eq (F : CallFix p m c cc nL s args gtbl own) {x : Int32} {off : Int} {tgt : Nat} (hdg : decode cc pc = .ok (.ifCond .eq off, 3)) (ht : (pc : Int) + off = (tgt : Int)) {A B : Prop} (h : if x = 0 then A else B) (kt : A → W p l e R s m args below meth c H locs cells slots Q (F0 m tgt ls rest)) (kf : B → W p l e R s m args below meth c H locs cells slots Q (F0 m (pc + 3) ls rest)) : W p l e R s m args below meth c H locs cells slots Q (F0 m pc ls (.int x :: rest)) := lv_if_eq F.1 F.2.1 hdg ht (fun q => kt (by rwa [if_pos q] at h)) (fun q => kf (by rwa [if_neg q] at h))
theorem r_if_lt (F : CallFix p m c cc nL s args gtbl own) {x : Int32} {off : Int} {tgt : Nat} (hdg : decode cc pc = .ok (.ifCond .lt off, 3)) (ht : (pc : Int) + off = (tgt : Int)) {A B : Prop} (h : if x < 0 then A else B) (kt : A → W p l e R s m args below meth c H locs cells slots Q (F0 m tgt ls rest)) (kf : B → W p l e R s m args below meth c H locs cells slots Q (F0 m (pc + 3) ls rest)) : W p l e R s m args below meth c H locs cells slots Q (F0 m pc ls (.int x :: rest)) := lv_if_lt F.1 F.2.1 hdg ht (fun q => kt (by rwa [if_pos q] at h)) (fun q => kf (by rwa [if_neg q] at h))
theorem r_if_ge (F : CallFix p m c cc nL s args gtbl own) {x : Int32} {off : Int} {tgt : Nat} (hdg : decode cc pc = .ok (.ifCond .ge off, 3)) (ht : (pc : Int) + off = (tgt : Int)) {A B : Prop} (h : if 0 ≤ x then A else B) (kt : A → W p l e R s m args below meth c H locs cells slots Q (F0 m tgt ls rest)) (kf : B → W p l e R s m args below meth c H locs cells slots Q (F0 m (pc + 3) ls rest)) : W p l e R s m args below meth c H locs cells slots Q (F0 m pc ls (.int x :: rest)) := lv_if_ge F.1 F.2.1 hdg ht (fun q => kt (by rwa [if_pos q] at h)) (fun q => kf (by rwa [if_neg q] at h))
theorem r_if_gt (F : CallFix p m c cc nL s args gtbl own) {x : Int32} {off : Int} {tgt : Nat} (hdg : decode cc pc = .ok (.ifCond .gt off, 3)) (ht : (pc : Int) + off = (tgt : Int)) {A B : Prop} (h : if 0 < x then A else B) (kt : A → W p l e R s m args below meth c H locs cells slots Q (F0 m tgt ls rest)) (kf : B → W p l e R s m args below meth c H locs cells slots Q (F0 m (pc + 3) ls rest)) : W p l e R s m args below meth c H locs cells slots Q (F0 m pc ls (.int x :: rest)) := lv_if_gt F.1 F.2.1 hdg ht (fun q => kt (by rwa [if_pos q] at h)) (fun q => kf (by rwa [if_neg q] at h))
theorem r_if_le (F : CallFix p m c cc nL s args gtbl own) {x : Int32} {off : Int} {tgt : Nat} (hdg : decode cc pc = .ok (.ifCond .le off, 3)) (ht : (pc : Int) + off = (tgt : Int)) {A B : Prop} (h : if x ≤ 0 then A else B) (kt : A → W p l e R s m args below meth c H locs cells slots Q (F0 m tgt ls rest)) (kf : B → W p l e R s m args below meth c H locs cells slots Q (F0 m (pc + 3) ls rest)) : W p l e R s m args below meth c H locs cells slots Q (F0 m pc ls (.int x :: rest)) := lv_if_le F.1 F.2.1 hdg ht (fun q => kt (by rwa [if_pos q] at h)) (fun q => kf (by rwa [if_neg q] at h))
theorem r_icmp_eq (F : CallFix p m c cc nL s args gtbl own) {x y : Int32} {off : Int} {tgt : Nat} (hdg : decode cc pc = .ok (.if_icmp .eq off, 3)) (ht : (pc : Int) + off = (tgt : Int)) {A B : Prop} (h : if x = y then A else B) (kt : A → W p l e R s m args below meth c H locs cells slots Q (F0 m tgt ls rest)) (kf : B → W p l e R s m args below meth c H locs cells slots Q (F0 m (pc + 3) ls rest)) : W p l e R s m args below meth c H locs cells slots Q (F0 m pc ls (.int y :: .int x :: rest)) := lv_icmp_eq F.1 F.2.1 hdg ht (fun q => kt (by rwa [if_pos q] at h)) (fun q => kf (by rwa [if_neg q] at h))
theorem r_icmp_lt (F : CallFix p m c cc nL s args gtbl own) {x y : Int32} {off : Int} {tgt : Nat} (hdg : decode cc pc = .ok (.if_icmp .lt off, 3)) (ht : (pc : Int) + off = (tgt : Int)) {A B : Prop} (h : if x < y then A else B) (kt : A → W p l e R s m args below meth c H locs cells slots Q (F0 m tgt ls rest)) (kf : B → W p l e R s m args below meth c H locs cells slots Q (F0 m (pc + 3) ls rest)) : W p l e R s m args below meth c H locs cells slots Q (F0 m pc ls (.int y :: .int x :: rest)) := lv_icmp_lt F.1 F.2.1 hdg ht (fun q => kt (by rwa [if_pos q] at h)) (fun q => kf (by rwa [if_neg q] at h))
theorem r_icmp_ge (F : CallFix p m c cc nL s args gtbl own) {x y : Int32} {off : Int} {tgt : Nat} (hdg : decode cc pc = .ok (.if_icmp .ge off, 3)) (ht : (pc : Int) + off = (tgt : Int)) {A B : Prop} (h : if y ≤ x then A else B) (kt : A → W p l e R s m args below meth c H locs cells slots Q (F0 m tgt ls rest)) (kf : B → W p l e R s m args below meth c H locs cells slots Q (F0 m (pc + 3) ls rest)) : W p l e R s m args below meth c H locs cells slots Q (F0 m pc ls (.int y :: .int x :: rest)) := lv_icmp_ge F.1 F.2.1 hdg ht (fun q => kt (by rwa [if_pos q] at h)) (fun q => kf (by rwa [if_neg q] at h))
theorem r_icmp_gt (F : CallFix p m c cc nL s args gtbl own) {x y : Int32} {off : Int} {tgt : Nat} (hdg : decode cc pc = .ok (.if_icmp .gt off, 3)) (ht : (pc : Int) + off = (tgt : Int)) {A B : Prop} (h : if y < x then A else B) (kt : A → W p l e R s m args below meth c H locs cells slots Q (F0 m tgt ls rest)) (kf : B → W p l e R s m args below meth c H locs cells slots Q (F0 m (pc + 3) ls rest)) : W p l e R s m args below meth c H locs cells slots Q (F0 m pc ls (.int y :: .int x :: rest)) := lv_icmp_gt F.1 F.2.1 hdg ht (fun q => kt (by rwa [if_pos q] at h)) (fun q => kf (by rwa [if_neg q] at h))
theorem r_icmp_le (F : CallFix p m c cc nL s args gtbl own) {x y : Int32} {off : Int} {tgt : Nat} (hdg : decode cc pc = .ok (.if_icmp .le off, 3)) (ht : (pc : Int) + off = (tgt : Int)) {A B : Prop} (h : if x ≤ y then A else B) (kt : A → W p l e R s m args below meth c H locs cells slots Q (F0 m tgt ls rest)) (kf : B → W p l e R s m args below meth c H locs cells slots Q (F0 m (pc + 3) ls rest)) : W p l e R s m args below meth c H locs cells slots Q (F0 m pc ls (.int y :: .int x :: rest)) := lv_icmp_le F.1 F.2.1 hdg ht (fun q => kt (by rwa [if_pos q] at h)) (fun q => kf (by rwa [if_neg q] at h))
theorem r_if_ne (F : CallFix p m c cc nL s args gtbl own) {x : Int32} {off : Int} {tgt : Nat} (hdg : decode cc pc = .ok (.ifCond .ne off, 3)) (ht : (pc : Int) + off = (tgt : Int)) {A B : Prop} (h : if x = 0 then B else A) (kt : A → W p l e R s m args below meth c H locs cells slots Q (F0 m tgt ls rest)) (kf : B → W p l e R s m args below meth c H locs cells slots Q (F0 m (pc + 3) ls rest)) : W p l e R s m args below meth c H locs cells slots Q (F0 m pc ls (.int x :: rest)) := lv_if_ne F.1 F.2.1 hdg ht (fun q => kt (by rwa [if_neg q] at h)) (fun q => kf (by rwa [if_pos q] at h))
theorem r_icmp_ne (F : CallFix p m c cc nL s args gtbl own) {x y : Int32} {off : Int} {tgt : Nat} (hdg : decode cc pc = .ok (.if_icmp .ne off, 3)) (ht : (pc : Int) + off = (tgt : Int)) {A B : Prop} (h : if x = y then B else A) (kt : A → W p l e R s m args below meth c H locs cells slots Q (F0 m tgt ls rest)) (kf : B → W p l e R s m args below meth c H locs cells slots Q (F0 m (pc + 3) ls rest)) : W p l e R s m args below meth c H locs cells slots Q (F0 m pc ls (.int y :: .int x :: rest)) := lv_icmp_ne F.1 F.2.1 hdg ht (fun q => kt (by rwa [if_neg q] at h)) (fun q => kf (by rwa [if_pos q] at h))
theorem r_ifnull (F : CallFix p m c cc nL s args gtbl own) {o : Option Nat} {off : Int} {tgt : Nat} (hdg : decode cc pc = .ok (.ifnull off, 3)) (ht : (pc : Int) + off = (tgt : Int)) {A : Prop} {B : Nat → Prop} (h : cO_ o A B) (kt : o = none → A → W p l e R s m args below meth c H locs cells slots Q (F0 m tgt ls rest)) (kf : ∀ b, o = some b → B b → W p l e R s m args below meth c H locs cells slots Q (F0 m (pc + 3) ls rest)) : W p l e R s m args below meth c H locs cells slots Q (F0 m pc ls (va_rf (o.map (gz g + ·)) :: rest)) := by
  cases o with
  | none => exact lv_ifnullN F.1 F.2.1 hdg ht (kt rfl (h.1 rfl))
  | some b => exact lv_ifnull F.1 F.2.1 hdg (kf b rfl (h.2 b rfl))
theorem r_ifnonnull (F : CallFix p m c cc nL s args gtbl own) {o : Option Nat} {off : Int} {tgt : Nat} (hdg : decode cc pc = .ok (.ifnonnull off, 3)) (ht : (pc : Int) + off = (tgt : Int)) {A : Prop} {B : Nat → Prop} (h : cO_ o A B) (kt : o = none → A → W p l e R s m args below meth c H locs cells slots Q (F0 m (pc + 3) ls rest)) (kf : ∀ b, o = some b → B b → W p l e R s m args below meth c H locs cells slots Q (F0 m tgt ls rest)) : W p l e R s m args below meth c H locs cells slots Q (F0 m pc ls (va_rf (o.map (gz g + ·)) :: rest)) := by
  cases o with
  | none => exact lv_ifnonnullN F.1 F.2.1 hdg (kt rfl (h.1 rfl))
  | some b => exact lv_ifnonnull F.1 F.2.1 hdg ht (kf b rfl (h.2 b rfl))
theorem r_aloadO (F : CallFix p m c cc nL s args gtbl own) {i len : Nat} {o : Option Nat} (hd : (∃ k : Fin 4, decode cc pc = .ok (.aload_n k, 1) ∧ (k : Nat) = i ∧ len = 1) ∨ (decode cc pc = .ok (.aload i, 2) ∧ len = 2)) (hl : ls[i]? = some (.val (va_rf (o.map (gz g + ·))))) (k : W p l e R s m args below meth c H locs cells slots Q (F0 m (pc + len) ls (va_rf (o.map (gz g + ·)) :: rest))) : W p l e R s m args below meth c H locs cells slots Q (F0 m pc ls rest) := by
  cases o with
  | none =>
    rcases hd with ⟨k1, h1, h2, h3⟩ | ⟨h1, h3⟩ <;> subst h3
    · exact lv_aload_nN F.1 F.2.1 h1 h2 hl k
    · exact lv_aloadN F.1 F.2.1 h1 hl k
  | some b =>
    rcases hd with ⟨k1, h1, h2, h3⟩ | ⟨h1, h3⟩ <;> subst h3
    · exact lv_aload_n F.1 F.2.1 h1 h2 hl k
    · exact lv_aload F.1 F.2.1 h1 hl k
theorem r_astoreO (F : CallFix p m c cc nL s args gtbl own) {i len : Nat} {o : Option Nat} {lv lv1 : List (Nat × Value)} (hd : (∃ k : Fin 4, decode cc pc = .ok (.astore_n k, 1) ∧ (k : Nat) = i ∧ len = 1) ∨ (decode cc pc = .ok (.astore i, 2) ∧ len = 2)) (h : lv_has ls nL lv) (hn : i < nL) (hl : lv.filter (fun q => !(q.1 == i) && !(q.1 + 1 == i && q.2.category == 2)) = lv1) (kk : ∀ ls1 : Array Slot, lv_has ls1 nL ((i, va_rf (o.map (gz g + ·))) :: lv1) → W p l e R s m args below meth c H locs cells slots Q (F0 m (pc + len) ls1 rest)) : W p l e R s m args below meth c H locs cells slots Q (F0 m pc ls (va_rf (o.map (gz g + ·)) :: rest)) := by
  cases o with
  | none =>
    rcases hd with ⟨k1, h1, h2, h3⟩ | ⟨h1, h3⟩ <;> subst h3
    · exact lv_astore_nN F.1 F.2.1 h1 h2 h hn (by rw [hl]; rfl) kk
    · exact lv_astoreN F.1 F.2.1 h1 h hn (by rw [hl]; rfl) kk
  | some b =>
    rcases hd with ⟨k1, h1, h2, h3⟩ | ⟨h1, h3⟩ <;> subst h3
    · exact lv_astore_n F.1 F.2.1 h1 h2 h hn (by rw [hl]; rfl) kk
    · exact lv_astore F.1 F.2.1 h1 h hn (by rw [hl]; rfl) kk
end RX
/-- the entry of a method -/
theorem m_of {l : Launch} {y : MethodName} {cc : ByteArray} {mL : Nat} {ret : Option FieldType} {rm : Room} {g : GX} {N : Nat} {ln : Nat → Nat} {S : HC} {av : List Value} {Qc : Array Value → State → Outcome → State → Prop} {mc ms : Nat} (hy : plainName y.cls = true) (hlen : (lg_sl av).length ≤ mL)
    (body : ∀ (p : Program) (e : Env) (s : State) (m : MethodId) (below : List Frame) (meth : Method) (c : Code) (ls : Array Slot), CallFix p m c cc mL s av.toArray gtbl y.cls → (meth.sig.returnType = ret ∧ meth.locks = false ∧ meth.name = y.name) → Inv g N ln S s s.heap [] → lv_has ls mL (lv_args 0 av) → W p l e rm s m av.toArray below meth c s.heap [] 0 0 (MQ below Qc av.toArray s mc ms (gF g)) (F0 m 0 ls [])) :
    Met l y (Cond.code y cc mL ret :: gtbl) rm (va_Pc av (AtP g N ln S)) Qc mc ms (gF g) := by
  refine Met.ofW (cc := cc) (maxL := mL) (ret := ret) hy rfl ?_
  intro p e s m args below meth c s₁ B hml hv
  obtain ⟨rfl, hA⟩ := hv
  have hts := atoms_spec (ws := Cond.code y cc mL ret :: gtbl) B.pre
  have hown : s.vm.findClass y.cls = some m.cls := findClass_of_methodNamed B.named
  have hl := lv_entry av (n := mL) hlen
  rw [lg_entry_eq]
  exact body p e s m below meth c _ ⟨B.exec, B.bytes, hml, hown, fun w hw => hts w (List.mem_cons_of_mem _ hw)⟩ ⟨B.returns, B.notSynchronized, (name_of_methodNamed B.named B.method).1⟩ (Inv.of hA) hl
/-- how methods end -/
abbrev QI (g : GX) (N : Nat) (ln : Nat → Nat) (post : Int32 → HC → Prop) := va_Qi post (AtQ g N ln) (gF g)
abbrev QL (g : GX) (N : Nat) (ln : Nat → Nat) (post : Int64 → HC → Prop) := va_Ql post (AtQ g N ln) (gF g)
abbrev QV (g : GX) (N : Nat) (ln : Nat → Nat) (post : HC → Prop) := va_Qv post (AtQ g N ln) (gF g)
abbrev QO (g : GX) (N : Nat) (ln : Nat → Nat) (f : Nat) (post : Option Nat → HC → Prop) := va_Qq (fun a u => ∃ o : Option Nat, a = o.map (gz g + ·) ∧ (∀ b, o = some b → b < N ∧ kd b = f) ∧ post o u) (AtQ g N ln) (gF g)
abbrev HX : Type := Nat × (Nat → Nat) × HC
abbrev AtX (g : GX) (u : HX) (U : State) : Prop := AtQ g u.1 u.2.1 u.2.2 U
abbrev QXV (g : GX) (N : Nat) (post : Nat → (Nat → Nat) → HC → Prop) := va_Qv (fun u : HX => N ≤ u.1 ∧ post u.1 u.2.1 u.2.2) (AtX g) (gF g)
abbrev QXI (g : GX) (N : Nat) (post : Int32 → Nat → (Nat → Nat) → HC → Prop) := va_Qi (fun v (u : HX) => N ≤ u.1 ∧ post v u.1 u.2.1 u.2.2) (AtX g) (gF g)
abbrev QXN (g : GX) (N f : Nat) (post : Nat → Nat → (Nat → Nat) → HC → Prop) := va_Qq (fun a (u : HX) => ∃ b : Nat, a = some (gz g + b) ∧ b < u.1 ∧ kd b = f ∧ N ≤ u.1 ∧ post b u.1 u.2.1 u.2.2) (AtX g) (gF g)
section RY
variable {p : Program} {l : Launch} {e : Env} {R : Room} {s : State} {m : MethodId} {args : Array Value} {below : List Frame} {meth : Method} {c : Code} {H : Heap} {locs : List Loc} {cells slots : Nat} {Q : State → Prop}
variable {cc : ByteArray} {pc nL : Nat} {ls : Array Slot} {rest : List Value} {own : String}
variable {g : GX} {N : Nat} {ln : Nat → Nat} {S : HC}
theorem r_ireturn (F : CallFix p m c cc nL s args gtbl own) (I : Inv g N ln S s H locs) (hr : meth.sig.returnType = some .int ∧ meth.locks = false ∧ True) {v : Int32} {post : Int32 → HC → Prop} (hp : post v S) (hdg : decode cc pc = .ok (.ireturn, 1)) : W p l e R s m args below meth c H locs cells slots (MQ below (QI g N ln post) args s cells slots (gF g)) (F0 m pc ls [.int v]) :=
  W.iret F.1 F.2.1 hr.1 (fun t ht hW => ⟨⟨v, S, rfl, hp, I.atQ ht hW⟩, I.S.F ht⟩) I.S.2.2 hdg hr.2.1
theorem r_zreturn (F : CallFix p m c cc nL s args gtbl own) (I : Inv g N ln S s H locs) {ty : FieldType} (hr : meth.sig.returnType = some ty ∧ meth.locks = false ∧ True) {v : Int32} {post : Int32 → HC → Prop} (hp : rb_ ty v (post v S)) (hdg : decode cc pc = .ok (.ireturn, 1)) : W p l e R s m args below meth c H locs cells slots (MQ below (QI g N ln post) args s cells slots (gF g)) (F0 m pc ls [.int v]) :=
  W.zret F.1 F.2.1 hr.1 hp.1 (fun t ht hW => ⟨⟨v, S, rfl, hp.2, I.atQ ht hW⟩, I.S.F ht⟩) I.S.2.2 hdg hr.2.1
theorem r_lreturn (F : CallFix p m c cc nL s args gtbl own) (I : Inv g N ln S s H locs) (hr : meth.sig.returnType = some .long ∧ meth.locks = false ∧ True) {v : Int64} {post : Int64 → HC → Prop} (hp : post v S) (hdg : decode cc pc = .ok (.lreturn, 1)) : W p l e R s m args below meth c H locs cells slots (MQ below (QL g N ln post) args s cells slots (gF g)) (F0 m pc ls [.long v]) :=
  W.lret F.1 F.2.1 hr.1 (fun t ht hW => ⟨⟨v, S, rfl, hp, I.atQ ht hW⟩, I.S.F ht⟩) I.S.2.2 hdg hr.2.1
theorem r_vreturn (F : CallFix p m c cc nL s args gtbl own) (I : Inv g N ln S s H locs) (hr : meth.sig.returnType = none ∧ meth.locks = false ∧ True) {post : HC → Prop} (hp : post S) (hdg : decode cc pc = .ok (.return_, 1)) : W p l e R s m args below meth c H locs cells slots (MQ below (QV g N ln post) args s cells slots (gF g)) (F0 m pc ls []) :=
  W.vret F.1 F.2.1 hr.1 (fun t ht hW => ⟨⟨S, rfl, hp, I.atQ ht hW⟩, I.S.F ht⟩) I.S.2.2 hdg hr.2.1
theorem r_areturnO (F : CallFix p m c cc nL s args gtbl own) (I : Inv g N ln S s H locs) {C : String} (hr : meth.sig.returnType = some (.object C) ∧ meth.locks = false ∧ True) {o : Option Nat} {f : Nat} (ho : ∀ b, o = some b → b < N ∧ kd b = f) {post : Option Nat → HC → Prop} (hp : post o S) (hdg : decode cc pc = .ok (.areturn, 1)) : W p l e R s m args below meth c H locs cells slots (MQ below (QO g N ln f post) args s cells slots (gF g)) (F0 m pc ls [va_rf (o.map (gz g + ·))]) :=
  W.aret F.1 F.2.1 hr.1 (Or.inl ⟨_, rfl⟩) (va_rf_or _) (fun t ht hW => ⟨⟨_, S, rfl, ⟨o, rfl, ho, hp⟩, I.atQ ht hW⟩, I.S.F ht⟩) I.S.2.2 hdg hr.2.1
theorem r_vreturnX (F : CallFix p m c cc nL s args gtbl own) (I : Inv g N ln S s H locs) (hr : meth.sig.returnType = none ∧ meth.locks = false ∧ True) {N0 : Nat} (hN : N0 ≤ N) {post : Nat → (Nat → Nat) → HC → Prop} (hp : post N ln S) (hdg : decode cc pc = .ok (.return_, 1)) : W p l e R s m args below meth c H locs cells slots (MQ below (QXV g N0 post) args s cells slots (gF g)) (F0 m pc ls []) :=
  W.vret F.1 F.2.1 hr.1 (fun t ht hW => ⟨⟨(N, ln, S), rfl, ⟨hN, hp⟩, I.atQ ht hW⟩, I.S.F ht⟩) I.S.2.2 hdg hr.2.1
theorem r_ireturnX (F : CallFix p m c cc nL s args gtbl own) (I : Inv g N ln S s H locs) (hr : meth.sig.returnType = some .int ∧ meth.locks = false ∧ True) {N0 : Nat} (hN : N0 ≤ N) {v : Int32} {post : Int32 → Nat → (Nat → Nat) → HC → Prop} (hp : post v N ln S) (hdg : decode cc pc = .ok (.ireturn, 1)) : W p l e R s m args below meth c H locs cells slots (MQ below (QXI g N0 post) args s cells slots (gF g)) (F0 m pc ls [.int v]) :=
  W.iret F.1 F.2.1 hr.1 (fun t ht hW => ⟨⟨v, (N, ln, S), rfl, ⟨hN, hp⟩, I.atQ ht hW⟩, I.S.F ht⟩) I.S.2.2 hdg hr.2.1
theorem r_areturnX (F : CallFix p m c cc nL s args gtbl own) (I : Inv g N ln S s H locs) {C : String} (hr : meth.sig.returnType = some (.object C) ∧ meth.locks = false ∧ True) {N0 b f : Nat} (hN : N0 ≤ N) (hb : b < N) (hkb : kd b = f) {post : Nat → Nat → (Nat → Nat) → HC → Prop} (hp : post b N ln S) (hdg : decode cc pc = .ok (.areturn, 1)) : W p l e R s m args below meth c H locs cells slots (MQ below (QXN g N0 f post) args s cells slots (gF g)) (F0 m pc ls [.ref (gz g + b)]) :=
  W.aret F.1 F.2.1 hr.1 (Or.inl ⟨_, rfl⟩) (Or.inr ⟨_, rfl⟩) (fun t ht hW => ⟨⟨some (gz g + b), (N, ln, S), rfl, ⟨b, rfl, hb, hkb, hN, hp⟩, I.atQ ht hW⟩, I.S.F ht⟩) I.S.2.2 hdg hr.2.1
/-- calls: what they rest on -/
def mthV (own : String) (idx ci : Nat) (y : MethodName) (bytes : ByteArray) (mL : Nat) (ret : Option FieldType) (n : Nat) : Prop := mthOK own idx y.cls y bytes mL ret n ∧ Cond.instanceMethod y ∈ gtbl ∧ Cond.selects y.cls y y ∈ gtbl ∧ vwCl[ci]?.map (fun q => q.1) = some y.cls
def mthS (own : String) (idx : Nat) (y : MethodName) (bytes : ByteArray) (mL : Nat) (ret : Option FieldType) (n : Nat) : Prop := mthOK own idx y.cls y bytes mL ret n ∧ Cond.static y ∈ gtbl
def mthI (own : String) (idx : Nat) (y : MethodName) (bytes : ByteArray) (mL n : Nat) : Prop := mthOK own idx y.cls y bytes mL none n ∧ Cond.instanceMethod y ∈ gtbl ∧ y.name = "<init>"
def nstI (own : String) (idx : Nat) (y : MethodName) (bytes : ByteArray) (mL n : Nat) : Prop := (Cond.methodLinkNest own idx y RX7 ∈ nestW ∧ Cond.initialized y.cls ∈ gtbl ∧ Cond.code y bytes mL none ∈ gtbl) ∧ (y.cls ≠ "java/lang/invoke/MethodHandle" ∧ y.cls ≠ "java/lang/invoke/VarHandle" ∧ (parseMethodDescriptor y.desc).map (fun d => d.parameters.length) = some n) ∧ Cond.instanceMethod y ∈ gtbl ∧ y.name = "<init>"
def nstS (own : String) (idx : Nat) (y : MethodName) (bytes : ByteArray) (mL : Nat) (ret : Option FieldType) (n : Nat) : Prop := (Cond.methodLinkNest own idx y RX7 ∈ nestW ∧ Cond.initialized y.cls ∈ gtbl ∧ Cond.code y bytes mL ret ∈ gtbl) ∧ (y.cls ≠ "java/lang/invoke/MethodHandle" ∧ y.cls ≠ "java/lang/invoke/VarHandle" ∧ (parseMethodDescriptor y.desc).map (fun d => d.parameters.length) = some n) ∧ Cond.static y ∈ gtbl
variable {y : MethodName} {bytes : ByteArray} {mL idx n ci r mc ms : Nat} {ret : Option FieldType} {rm : Room} {Qc : Array Value → State → Outcome → State → Prop} {As st : List Value}
/-- the run of a call, by its kind -/
theorem run_V (F : CallFix p m c cc nL s args gtbl own) (I : Inv g N ln S s H locs) (hr : r < N) (hk : kd r = ci) (h9 : ci < 9) (k : mthV own idx ci y bytes mL ret n) (hM : Met l y (Cond.code y bytes mL ret :: gtbl) rm (va_Pc (.ref (gz g + r) :: As) (AtP g N ln S)) Qc mc ms (gF g)) (hrm : rm.cells = mc ∧ rm.slots = ms) (hR : rm.frames + 1 ≤ R.frames ∧ 8 + (mL + 11) + rm.locals ≤ R.locals) (hn : As.length = n) (hsz : ls.size = nL) (hst : st = As.reverse ++ .ref (gz g + r) :: rest) (hroom : (rest.map fun v => v.category).sum ≤ 8) (hcs : cells + mc ≤ R.cells ∧ slots + ms ≤ R.slots) (hdg : decode cc pc = .ok (.invokevirtual idx, 3)) :
    va_Run p l e R s m args below meth c H locs cells slots mc ms (F0 m pc ls st) rest (Qc (Value.ref (gz g + r) :: As).toArray) (gF g) := by
  obtain ⟨⟨⟨k1, k2, k3⟩, -, k5⟩, k6, k7, k8⟩ := k
  have hts := F.2.2.2.2
  obtain ⟨q, hq, hq2⟩ : ∃ q : vw_C, vwCl[ci]? = some q ∧ q.1 = y.cls := by
    cases hv : vwCl[ci]? with
    | none => rw [hv] at k8; cases k8
    | some q => rw [hv] at k8; exact ⟨q, rfl, Option.some.inj k8⟩
  refine va_runV (C := y.cls) F hM ⟨callB_of n hts (good_in k3) rfl hrm.1 hrm.2 (hts _ k2) (hts _ k1) k5 hR, hts _ k6, hts _ k7⟩ ⟨AtP.blind, ?_, fun U hU hW => ⟨rfl, I.atP hU hW⟩⟩ rfl hn hsz hst (lv_room hroom) hdg hcs
  rw [← hq2]
  exact va_recv I.K I.P hq (wl_eq hr (ce_o hk h9))
theorem run_S (F : CallFix p m c cc nL s args gtbl own) (I : Inv g N ln S s H locs) (k : mthS own idx y bytes mL ret n) (hM : Met l y (Cond.code y bytes mL ret :: gtbl) rm (va_Pc As (AtP g N ln S)) Qc mc ms (gF g)) (hrm : rm.cells = mc ∧ rm.slots = ms) (hR : rm.frames + 1 ≤ R.frames ∧ 8 + (mL + 11) + rm.locals ≤ R.locals) (hn : As.length = n) (hsz : ls.size = nL) (hst : st = As.reverse ++ rest) (hroom : (rest.map fun v => v.category).sum ≤ 8) (hcs : cells + mc ≤ R.cells ∧ slots + ms ≤ R.slots) (hdg : decode cc pc = .ok (.invokestatic idx, 3)) :
    va_Run p l e R s m args below meth c H locs cells slots mc ms (F0 m pc ls st) rest (Qc As.toArray) (gF g) := by
  obtain ⟨⟨⟨k1, k2, k3⟩, -, k5⟩, k6⟩ := k
  have hts := F.2.2.2.2
  exact va_runS F hM ⟨callB_of n hts (good_in k3) rfl hrm.1 hrm.2 (hts _ k2) (hts _ k1) k5 hR, hts _ k6⟩ ⟨AtP.blind, fun U hU hW => ⟨rfl, I.atP hU hW⟩⟩ rfl hn hsz hst (lv_room hroom) hdg hcs
theorem run_NS (F : CallFix p m c cc nL s args gtbl own) (I : Inv g N ln S s H locs) (k : nstS own idx y bytes mL ret n) (hM : Met l y (Cond.code y bytes mL ret :: gtbl) rm (va_Pc As (AtP g N ln S)) Qc mc ms (gF g)) (hrm : rm.cells = mc ∧ rm.slots = ms) (hR : rm.frames + 1 ≤ R.frames ∧ 8 + (mL + 11) + rm.locals ≤ R.locals) (hn : As.length = n) (hsz : ls.size = nL) (hst : st = As.reverse ++ rest) (hroom : (rest.map fun v => v.category).sum ≤ 8) (hcs : cells + mc ≤ R.cells ∧ slots + ms ≤ R.slots) (hdg : decode cc pc = .ok (.invokestatic idx, 3)) :
    va_Run p l e R s m args below meth c H locs cells slots mc ms (F0 m pc ls st) rest (Qc As.toArray) (gF g) := by
  obtain ⟨⟨k1, k2, k3⟩, k5, k6⟩ := k
  have hts := F.2.2.2.2
  exact va_runSN F hM ⟨va_cnB n hts (good_in k3) rfl hrm.1 hrm.2 (I.2.2.1.1.1 _ k1) (hts _ k2) k5 hR, hts _ k6, trivial⟩ ⟨AtP.blind, fun U hU hW => ⟨rfl, I.atP hU hW⟩⟩ rfl hn hsz hst (lv_room hroom) hdg hcs
theorem run_I (F : CallFix p m c cc nL s args gtbl own) (I : Inv g N ln S s H locs) (k : mthI own idx y bytes mL n) {b : Nat} (hM : Met l y (Cond.code y bytes mL none :: gtbl) rm (va_Pc (.ref b :: As) (AtP g N ln S)) Qc mc ms (gF g)) (hrm : rm.cells = mc ∧ rm.slots = ms) (hR : rm.frames + 1 ≤ R.frames ∧ 8 + (mL + 11) + rm.locals ≤ R.locals) (hn : As.length = n) (hsz : ls.size = nL) (hst : st = As.reverse ++ .ref b :: rest) (hroom : (rest.map fun v => v.category).sum ≤ 8) (hcs : cells + mc ≤ R.cells ∧ slots + ms ≤ R.slots) (hdg : decode cc pc = .ok (.invokespecial idx, 3)) :
    va_Run p l e R s m args below meth c H locs cells slots mc ms (F0 m pc ls st) rest (Qc (Value.ref b :: As).toArray) (gF g) := by
  obtain ⟨⟨⟨k1, k2, k3⟩, -, k5⟩, k6, k7⟩ := k
  have hts := F.2.2.2.2
  exact va_runI F hM ⟨callB_of n hts (good_in k3) rfl hrm.1 hrm.2 (hts _ k2) (hts _ k1) k5 hR, k7, hts _ k6⟩ ⟨AtP.blind, fun U hU hW => ⟨rfl, I.atP hU hW⟩⟩ rfl hn hsz hst (lv_room hroom) hdg hcs
theorem run_NI (F : CallFix p m c cc nL s args gtbl own) (I : Inv g N ln S s H locs) (k : nstI own idx y bytes mL n) {b : Nat} (hM : Met l y (Cond.code y bytes mL none :: gtbl) rm (va_Pc (.ref b :: As) (AtP g N ln S)) Qc mc ms (gF g)) (hrm : rm.cells = mc ∧ rm.slots = ms) (hR : rm.frames + 1 ≤ R.frames ∧ 8 + (mL + 11) + rm.locals ≤ R.locals) (hn : As.length = n) (hsz : ls.size = nL) (hst : st = As.reverse ++ .ref b :: rest) (hroom : (rest.map fun v => v.category).sum ≤ 8) (hcs : cells + mc ≤ R.cells ∧ slots + ms ≤ R.slots) (hdg : decode cc pc = .ok (.invokespecial idx, 3)) :
    va_Run p l e R s m args below meth c H locs cells slots mc ms (F0 m pc ls st) rest (Qc (Value.ref b :: As).toArray) (gF g) := by
  obtain ⟨⟨k1, k2, k3⟩, k5, k6, k7⟩ := k
  have hts := F.2.2.2.2
  exact va_runIN F hM ⟨va_cnB n hts (good_in k3) rfl hrm.1 hrm.2 (I.2.2.1.1.1 _ k1) (hts _ k2) k5 hR, k7, hts _ k6⟩ ⟨AtP.blind, fun U hU hW => ⟨rfl, I.atP hU hW⟩⟩ rfl hn hsz hst (lv_room hroom) hdg hcs
variable {av : Array Value}
/-- behind a call -/
theorem g_I (I : Inv g N ln S s H locs) {post : Int32 → HC → Prop} (hr : va_Run p l e R s m args below meth c H locs cells slots mc ms (F0 m pc ls st) rest (QI g N ln post av) (gF g)) (kk : ∀ (v : Int32) (S1 : HC) (H1 : Heap) (locs1 : List Loc), Inv g N ln S1 s H1 locs1 → post v S1 → W p l e R s m args below meth c H1 locs1 (cells + mc) (slots + ms) Q (F0 m (pc + 3) ls (.int v :: rest))) : W p l e R s m args below meth c H locs cells slots Q (F0 m pc ls st) :=
  va_calli hr I.S (fun _ _ h => h) (fun _ h => h) (fun v u t H1 locs1 ht hvm hp hB _ _ hS => kk v u H1 locs1 (I.back hB ht hvm hS) hp)
theorem g_L (I : Inv g N ln S s H locs) {post : Int64 → HC → Prop} (hr : va_Run p l e R s m args below meth c H locs cells slots mc ms (F0 m pc ls st) rest (QL g N ln post av) (gF g)) (kk : ∀ (v : Int64) (S1 : HC) (H1 : Heap) (locs1 : List Loc), Inv g N ln S1 s H1 locs1 → post v S1 → W p l e R s m args below meth c H1 locs1 (cells + mc) (slots + ms) Q (F0 m (pc + 3) ls (.long v :: rest))) : W p l e R s m args below meth c H locs cells slots Q (F0 m pc ls st) :=
  va_calll hr I.S (fun _ _ h => h) (fun _ h => h) (fun v u t H1 locs1 ht hvm hp hB _ _ hS => kk v u H1 locs1 (I.back hB ht hvm hS) hp)
theorem g_V (I : Inv g N ln S s H locs) {post : HC → Prop} (hr : va_Run p l e R s m args below meth c H locs cells slots mc ms (F0 m pc ls st) rest (QV g N ln post av) (gF g)) (kk : ∀ (S1 : HC) (H1 : Heap) (locs1 : List Loc), Inv g N ln S1 s H1 locs1 → post S1 → W p l e R s m args below meth c H1 locs1 (cells + mc) (slots + ms) Q (F0 m (pc + 3) ls rest)) : W p l e R s m args below meth c H locs cells slots Q (F0 m pc ls st) :=
  va_callv hr I.S (fun _ _ h => h) (fun _ h => h) (fun u t H1 locs1 ht hvm hp hB _ _ hS => kk u H1 locs1 (I.back hB ht hvm hS) hp)
theorem g_O (I : Inv g N ln S s H locs) {f : Nat} {post : Option Nat → HC → Prop} (hr : va_Run p l e R s m args below meth c H locs cells slots mc ms (F0 m pc ls st) rest (QO g N ln f post av) (gF g)) (kk : ∀ (o : Option Nat) (S1 : HC) (H1 : Heap) (locs1 : List Loc), (∀ b, o = some b → b < N ∧ kd b = f) → Inv g N ln S1 s H1 locs1 → post o S1 → W p l e R s m args below meth c H1 locs1 (cells + mc) (slots + ms) Q (F0 m (pc + 3) ls (va_rf (o.map (gz g + ·)) :: rest))) : W p l e R s m args below meth c H locs cells slots Q (F0 m pc ls st) :=
  va_callq hr I.S (fun _ _ h => h) (fun _ h => h) (fun v u t H1 locs1 ht hvm hp hB _ _ hS => by
    obtain ⟨o, e1, e2, e3⟩ := hp
    subst e1
    exact kk o u H1 locs1 e2 (I.back hB ht hvm hS) e3)
theorem g_XV (I : Inv g N ln S s H locs) {post : Nat → (Nat → Nat) → HC → Prop} (hr : va_Run p l e R s m args below meth c H locs cells slots mc ms (F0 m pc ls st) rest (QXV g N post av) (gF g)) (kk : ∀ (N1 : Nat) (ln1 : Nat → Nat) (S1 : HC) (H1 : Heap) (locs1 : List Loc), N ≤ N1 → Inv g N1 ln1 S1 s H1 locs1 → post N1 ln1 S1 → W p l e R s m args below meth c H1 locs1 (cells + mc) (slots + ms) Q (F0 m (pc + 3) ls rest)) : W p l e R s m args below meth c H locs cells slots Q (F0 m pc ls st) :=
  va_callv hr I.S (fun _ _ h => h) (fun _ h => h) (fun u t H1 locs1 ht hvm hp hB _ _ hS => kk u.1 u.2.1 u.2.2 H1 locs1 hp.1 (I.back hB ht hvm hS) hp.2)
theorem g_XI (I : Inv g N ln S s H locs) {post : Int32 → Nat → (Nat → Nat) → HC → Prop} (hr : va_Run p l e R s m args below meth c H locs cells slots mc ms (F0 m pc ls st) rest (QXI g N post av) (gF g)) (kk : ∀ (v : Int32) (N1 : Nat) (ln1 : Nat → Nat) (S1 : HC) (H1 : Heap) (locs1 : List Loc), N ≤ N1 → Inv g N1 ln1 S1 s H1 locs1 → post v N1 ln1 S1 → W p l e R s m args below meth c H1 locs1 (cells + mc) (slots + ms) Q (F0 m (pc + 3) ls (.int v :: rest))) : W p l e R s m args below meth c H locs cells slots Q (F0 m pc ls st) :=
  va_calli hr I.S (fun _ _ h => h) (fun _ h => h) (fun v u t H1 locs1 ht hvm hp hB _ _ hS => kk v u.1 u.2.1 u.2.2 H1 locs1 hp.1 (I.back hB ht hvm hS) hp.2)
theorem g_XN (I : Inv g N ln S s H locs) {f : Nat} {post : Nat → Nat → (Nat → Nat) → HC → Prop} (hr : va_Run p l e R s m args below meth c H locs cells slots mc ms (F0 m pc ls st) rest (QXN g N f post av) (gF g)) (kk : ∀ (b N1 : Nat) (ln1 : Nat → Nat) (S1 : HC) (H1 : Heap) (locs1 : List Loc), b < N1 → kd b = f → N ≤ N1 → Inv g N1 ln1 S1 s H1 locs1 → post b N1 ln1 S1 → W p l e R s m args below meth c H1 locs1 (cells + mc) (slots + ms) Q (F0 m (pc + 3) ls (.ref (gz g + b) :: rest))) : W p l e R s m args below meth c H locs cells slots Q (F0 m pc ls st) :=
  va_callq hr I.S (fun _ _ h => h) (fun _ h => h) (fun v u t H1 locs1 ht hvm hp hB _ _ hS => by
    obtain ⟨b, e1, e2, e3, e4, e5⟩ := hp
    subst e1
    exact kk b u.1 u.2.1 u.2.2 H1 locs1 e2 e3 e4 (I.back hB ht hvm hS) e5)
/-- new cells -/
def nw_ (N ci : Nat) (ln : Nat → Nat) (S : HC) (K : Nat → (Nat → Nat) → HC → Prop) : Prop := kd N = ci ∧ K (N + 1) ln (nw S N)
def na_ (N ci : Nat) (n : Int32) (B : Nat) (ln : Nat → Nat) (S : HC) (K : Nat → (Nat → Nat) → HC → Prop) : Prop := kd N = ci ∧ (¬ n < 0 ∧ n.toNatClampNeg ≤ B) ∧ K (N + 1) (va_up ln N n.toNatClampNeg) (nw S N)
theorem Inv.push (I : Inv g N ln S s H locs) {ln1 : Nat → Nat} {H1 : Heap} (hz : H1.size = H.size + 1) (ho : ∀ q, q < H.size → H1[q]? = H[q]?) (hl : ∀ a, a ≠ N → ln1 a = ln a) (hat : va_at (gD g) vwCl (gz g + N, ce (gz g) (gA g) ln1 (nw S N) N) H1) : Inv g (N + 1) ln1 (nw S N) s H1 locs := by
  have hs := I.sz
  have ecell : ∀ a, a ≠ N → ce (gz g) (gA g) ln1 (nw S N) a = ce (gz g) (gA g) ln S a := by
    intro a ha
    have e : va_up ln N (ln1 N) = ln1 := by
      funext x
      by_cases hx : x = N
      · subst hx; exact va_up_self _ _ _
      · rw [va_up_ne _ _ hx, hl x hx]
    have := ce_nw (z0 := gz g) (cA := gA g) (ln := ln) (S := S) (r := N) (n := ln1 N) a ha
    rw [e] at this
    exact this
  refine ⟨⟨I.K, fun j q hj => ?_⟩, ⟨by omega, I.T.nw⟩, I.2.2.1, ⟨by have := I.S.1; omega, fun q h1 h2 => ?_, I.S.2.2⟩⟩
  · obtain ⟨h1, h2⟩ := wl_in hj
    subst h2
    by_cases e : j = N
    · subst e; exact hat
    · rw [ecell j e]
      exact (I.P j _ (wl_at (by omega))).kept (ho _ (by simp only; omega))
  · have := I.S.1
    rw [ho q (by omega)]
    exact I.S.2.1 q h1 h2
theorem r_new (F : CallFix p m c cc nL s args gtbl own) (I : Inv g N ln S s H locs) (k : clsOK own idx ci n) {K : Nat → (Nat → Nat) → HC → Prop} (h : nw_ N ci ln S K) (hcs : cells + 1 ≤ R.cells ∧ slots + n ≤ R.slots) (hdg : decode cc pc = .ok (.new idx, 3))
    (kk : ∀ (N1 : Nat) (ln1 : Nat → Nat) (S1 : HC) (H1 : Heap), N < N1 → kd N = ci → Inv g N1 ln1 S1 s H1 locs → K N1 ln1 S1 → W p l e R s m args below meth c H1 locs (cells + 1) (slots + n) Q (F0 m (pc + 3) ls (.ref (gz g + N) :: rest))) : W p l e R s m args below meth c H locs cells slots Q (F0 m pc ls rest) := by
  obtain ⟨C, T, ty, ⟨hc, hin, hnf, h9⟩, hty, hdv, k1, k2, k3⟩ := k
  have hts := F.2.2.2.2
  have hKn := I.K.1 ci _ hc
  have hs := I.sz
  refine W.newcK F.1 F.2.1 F.2.2.2.1 (hts _ k1) (hts _ k2) (hts _ k3) rfl hdg hcs.1 hcs.2 hKn.2.1 hs fun H1 kC hkC e1 z1 o1 => ?_
  refine kk _ _ _ H1 (Nat.lt_succ_self N) h.1 (I.push (by rw [z1, hs]) (fun q hq => o1 q (by omega)) (fun _ _ => rfl) ?_) h.2
  rw [ce_o h.1 h9]
  refine ⟨_, hc, (u_born ty hts hin hKn hkC e1 hty).to (fun j hj => ?_)⟩
  rw [hdv j hj]
  simp only [vp_V, List.getD_eq_getElem?_getD]
  rw [fl_at (by omega)]
  simp only [fv, hI, hR, nw, up1, if_true, Option.getD_some, Option.map_none]
  rfl
theorem r_newa0 (I : Inv g N ln S s H locs) {q : Nat} (hk : kd N = q) {B : Nat} {ty : FieldType} {t0 : Nat} {cA : ClassId} (ht : (tyL (gA g))[t0]? = some (gA g q, ty)) (hnm : va_RA s cA ty) (hcl : ∀ H1 : Heap, H1[gz g + N]? = some (arrV cA B (fun _ => defaultValue ty)) → cA = gA g q → va_at (gD g) vwCl (gz g + N, ce (gz g) (gA g) (va_up ln N B) (nw S N) N) H1) (hu : ∀ a b, va_RA s a ty → va_RA s b ty → a = b) {H1 : Heap} (e1 : H1[gz g + N]? = some (arrV cA B (fun _ => defaultValue ty))) (z1 : H1.size = gz g + N + 1) (o1 : ∀ q, q < gz g + N → H1[q]? = H[q]?) : Inv g (N + 1) (va_up ln N B) (nw S N) s H1 locs := by
  have hs := I.sz
  exact I.push (by rw [z1, hs]) (fun q hq => o1 q (by omega)) (fun a ha => va_up_ne _ _ ha) (hcl H1 e1 (hu _ _ hnm (I.K.2 t0 _ ht).2))
theorem ra_u {s : State} {a b : ClassId} {x : String} (h1 : s.vm.findClass x = some a) (h2 : s.vm.findClass x = some b) : a = b := Option.some.inj (h1.symm.trans h2)
theorem r_newa (F : CallFix p m c cc nL s args gtbl own) (I : Inv g N ln S s H locs) {x : Int32} {B : Nat} {K : Nat → (Nat → Nat) → HC → Prop} (h : na_ N 9 x B ln S K) (hw : Cond.arrayClass .int ∈ gtbl) (hcs : cells + 1 ≤ R.cells ∧ slots + B ≤ R.slots) (hB : B * 4 ≤ 536870912) (hdg : decode cc pc = .ok (.newarray .int, 2))
    (kk : ∀ (N1 : Nat) (ln1 : Nat → Nat) (S1 : HC) (H1 : Heap), N < N1 → kd N = 9 → Inv g N1 ln1 S1 s H1 locs → K N1 ln1 S1 → W p l e R s m args below meth c H1 locs (cells + 1) (slots + B) Q (F0 m (pc + 2) ls (.ref (gz g + N) :: rest))) : W p l e R s m args below meth c H locs cells slots Q (F0 m pc ls (.int x :: rest)) := by
  obtain ⟨hk, ⟨hx, hxB⟩, hK⟩ := h
  refine va_newaK (atype := .int) F.1 F.2.1 (F.2.2.2.2 _ hw) rfl hdg rfl hx rfl (Nat.le_trans (Nat.mul_le_mul_right _ hxB) hB) hcs.1 (by omega) I.sz fun H1 cA e1 z1 o1 _ hNm => ?_
  refine W.widen (k := cells + 1) (n := slots + B) (Nat.le_refl _) (by omega) ?_
  refine kk _ _ _ H1 (Nat.lt_succ_self N) hk (r_newa0 I hk (t0 := 0) (ty := .int) rfl hNm (fun H1 e1 ec => ?_) (fun a b h1 h2 => ra_u h1 h2) e1 z1 o1) hK
  rw [ce_i hk (Or.inl rfl), ← ec]
  show H1[gz g + N]? = some (vp_cell _ _)
  rw [vp_cell_i, e1]
  simp [hI, nw, up1, va_up, defaultValue]
theorem r_newaJ (F : CallFix p m c cc nL s args gtbl own) (I : Inv g N ln S s H locs) {x : Int32} {B : Nat} {K : Nat → (Nat → Nat) → HC → Prop} (h : na_ N 10 x B ln S K) (hw : Cond.arrayClass .long ∈ gtbl) (hcs : cells + 1 ≤ R.cells ∧ slots + B ≤ R.slots) (hB : B * 8 ≤ 536870912) (hdg : decode cc pc = .ok (.newarray .long, 2))
    (kk : ∀ (N1 : Nat) (ln1 : Nat → Nat) (S1 : HC) (H1 : Heap), N < N1 → kd N = 10 → Inv g N1 ln1 S1 s H1 locs → K N1 ln1 S1 → W p l e R s m args below meth c H1 locs (cells + 1) (slots + B) Q (F0 m (pc + 2) ls (.ref (gz g + N) :: rest))) : W p l e R s m args below meth c H locs cells slots Q (F0 m pc ls (.int x :: rest)) := by
  obtain ⟨hk, ⟨hx, hxB⟩, hK⟩ := h
  refine va_newaK (atype := .long) F.1 F.2.1 (F.2.2.2.2 _ hw) rfl hdg rfl hx rfl (Nat.le_trans (Nat.mul_le_mul_right _ hxB) hB) hcs.1 (by omega) I.sz fun H1 cA e1 z1 o1 _ hNm => ?_
  refine W.widen (k := cells + 1) (n := slots + B) (Nat.le_refl _) (by omega) ?_
  refine kk _ _ _ H1 (Nat.lt_succ_self N) hk (r_newa0 I hk (t0 := 1) (ty := .long) rfl hNm (fun H1 e1 ec => ?_) (fun a b h1 h2 => ra_u h1 h2) e1 z1 o1) hK
  rw [ce_j hk, ← ec]
  show H1[gz g + N]? = some (vp_cell _ _)
  rw [vp_cell_l, e1]
  simp [hJ, nw, up1, va_up, defaultValue]
theorem r_newaZ (F : CallFix p m c cc nL s args gtbl own) (I : Inv g N ln S s H locs) {x : Int32} {B : Nat} {K : Nat → (Nat → Nat) → HC → Prop} (h : na_ N 11 x B ln S K) (hw : Cond.arrayClass .boolean ∈ gtbl) (hcs : cells + 1 ≤ R.cells ∧ slots + B ≤ R.slots) (hB : B * 1 ≤ 536870912) (hdg : decode cc pc = .ok (.newarray .boolean, 2))
    (kk : ∀ (N1 : Nat) (ln1 : Nat → Nat) (S1 : HC) (H1 : Heap), N < N1 → kd N = 11 → Inv g N1 ln1 S1 s H1 locs → K N1 ln1 S1 → W p l e R s m args below meth c H1 locs (cells + 1) (slots + B) Q (F0 m (pc + 2) ls (.ref (gz g + N) :: rest))) : W p l e R s m args below meth c H locs cells slots Q (F0 m pc ls (.int x :: rest)) := by
  obtain ⟨hk, ⟨hx, hxB⟩, hK⟩ := h
  refine va_newaK (atype := .boolean) F.1 F.2.1 (F.2.2.2.2 _ hw) rfl hdg rfl hx rfl (Nat.le_trans (Nat.mul_le_mul_right _ hxB) hB) hcs.1 (by omega) I.sz fun H1 cA e1 z1 o1 _ hNm => ?_
  refine W.widen (k := cells + 1) (n := slots + B) (Nat.le_refl _) (by omega) ?_
  refine kk _ _ _ H1 (Nat.lt_succ_self N) hk (r_newa0 I hk (t0 := 2) (ty := .boolean) rfl hNm (fun H1 e1 ec => ?_) (fun a b h1 h2 => ra_u h1 h2) e1 z1 o1) hK
  rw [ce_i hk (Or.inr (Or.inl rfl)), ← ec]
  show H1[gz g + N]? = some (vp_cell _ _)
  rw [vp_cell_i, e1]
  simp [hI, nw, up1, va_up, defaultValue]
theorem r_newaC (F : CallFix p m c cc nL s args gtbl own) (I : Inv g N ln S s H locs) {x : Int32} {B : Nat} {K : Nat → (Nat → Nat) → HC → Prop} (h : na_ N 12 x B ln S K) (hw : Cond.arrayClass .char ∈ gtbl) (hcs : cells + 1 ≤ R.cells ∧ slots + B ≤ R.slots) (hB : B * 2 ≤ 536870912) (hdg : decode cc pc = .ok (.newarray .char, 2))
    (kk : ∀ (N1 : Nat) (ln1 : Nat → Nat) (S1 : HC) (H1 : Heap), N < N1 → kd N = 12 → Inv g N1 ln1 S1 s H1 locs → K N1 ln1 S1 → W p l e R s m args below meth c H1 locs (cells + 1) (slots + B) Q (F0 m (pc + 2) ls (.ref (gz g + N) :: rest))) : W p l e R s m args below meth c H locs cells slots Q (F0 m pc ls (.int x :: rest)) := by
  obtain ⟨hk, ⟨hx, hxB⟩, hK⟩ := h
  refine va_newaK (atype := .char) F.1 F.2.1 (F.2.2.2.2 _ hw) rfl hdg rfl hx rfl (Nat.le_trans (Nat.mul_le_mul_right _ hxB) hB) hcs.1 (by omega) I.sz fun H1 cA e1 z1 o1 _ hNm => ?_
  refine W.widen (k := cells + 1) (n := slots + B) (Nat.le_refl _) (by omega) ?_
  refine kk _ _ _ H1 (Nat.lt_succ_self N) hk (r_newa0 I hk (t0 := 3) (ty := .char) rfl hNm (fun H1 e1 ec => ?_) (fun a b h1 h2 => ra_u h1 h2) e1 z1 o1) hK
  rw [ce_i hk (Or.inr (Or.inr rfl)), ← ec]
  show H1[gz g + N]? = some (vp_cell _ _)
  rw [vp_cell_i, e1]
  simp [hI, nw, up1, va_up, defaultValue]
theorem r_newq (F : CallFix p m c cc nL s args gtbl own) (I : Inv g N ln S s H locs) {x : Int32} {q B : Nat} {C : String} {K : Nat → (Nat → Nat) → HC → Prop} (h : na_ N q x B ln S K) (hq : 13 ≤ q) (ht : (tyL (gA g))[q - 9]? = some (gA g q, .object C)) (hw : Cond.classLink own idx C ∈ gtbl) (ho : OldV g s → va_AO C s) (hcs : cells + 1 ≤ R.cells ∧ slots + B ≤ R.slots) (hB : B * 4 ≤ 536870912) (hdg : decode cc pc = .ok (.anewarray idx, 3))
    (kk : ∀ (N1 : Nat) (ln1 : Nat → Nat) (S1 : HC) (H1 : Heap), N < N1 → kd N = q → Inv g N1 ln1 S1 s H1 locs → K N1 ln1 S1 → W p l e R s m args below meth c H1 locs (cells + 1) (slots + B) Q (F0 m (pc + 3) ls (.ref (gz g + N) :: rest))) : W p l e R s m args below meth c H locs cells slots Q (F0 m pc ls (.int x :: rest)) := by
  obtain ⟨hk, ⟨hx, hxB⟩, hK⟩ := h
  have hs := I.sz
  refine W.anew F.1 F.2.1 F.2.2.2.1 (F.2.2.2.2 _ hw) (va_AO.use (ho I.2.2.1.1)) rfl hdg rfl hx (Nat.le_trans (Nat.mul_le_mul_right _ hxB) hB) hcs.1 (by omega) fun cA kA comp f1 f2 f3 f4 => ?_
  refine W.widen (k := cells + 1) (n := slots + B) (Nat.le_refl _) (by omega) ?_
  have key : Inv g (N + 1) (va_up ln N x.toNatClampNeg) (nw S N) s (H.push ({ cls := cA, slots := Array.replicate x.toNatClampNeg .null, vm := .none } : Cell)) locs := by
    refine I.push (by simp) (fun q hq => by rw [Array.getElem?_push, if_neg (Nat.ne_of_lt hq)]) (fun a ha => va_up_ne _ _ ha) ?_
    obtain ⟨-, kA2, comp2, g1, g2, g3, g4⟩ := I.K.2 (q - 9) _ ht
    have ec : cA = gA g q := Option.some.inj (f1.symm.trans g4)
    rw [ce_r hk hq, ← ec]
    show (H.push _)[gz g + N]? = some (vp_cell _ _)
    rw [vp_cell_q, ← hs, Array.getElem?_push_size, arrV_new]
    simp [hR, nw, up1, va_up, va_rf]
  have := kk _ _ _ _ (Nat.lt_succ_self N) hk key hK
  rw [← hs] at this
  exact this
theorem r_kget (F : CallFix p m c cc nL s args gtbl own) (I : Inv g N ln S s H locs) (hw : Cond.fieldLink own idx RX7 "KIND_ABOVE" "[I" ∈ gtbl) (hdg : decode cc pc = .ok (.getstatic idx, 3)) (kk : W p l e R s m args below meth c H locs cells slots Q (F0 m (pc + 3) ls (.ref (gT g) :: rest))) : W p l e R s m args below meth c H locs cells slots Q (F0 m pc ls rest) :=
  va_gets F.1 F.2.1 I.2.2.1.2.1.1.1 I.S F.2.2.2.1 (F.2.2.2.2 _ hw) (fun _ h => h) hdg kk
theorem r_kald (F : CallFix p m c cc nL s args gtbl own) (I : Inv g N ln S s H locs) (hdg : decode cc pc = .ok (.iaload, 1)) {i : Int32} {K : Int32 → Prop} (h : al_ 6 i (fun j => kaL.getD j 0) K) (kk : ∀ v, K v → W p l e R s m args below meth c H locs cells slots Q (F0 m (pc + 1) ls (.int v :: rest))) : W p l e R s m args below meth c H locs cells slots Q (F0 m pc ls (.int i :: .ref (gT g) :: rest)) :=
  va_ti F.1 F.2.1 I.2.2.1.2.1.1.2 I.S h.1 rfl hdg (kk _ h.2)
def cp_ (ln : Nat → Nat) (S : HC) (r1 : Nat) (sp : Int32) (r2 : Nat) (dp n : Int32) (K : HC → Prop) : Prop := (¬ sp < 0 ∧ ¬ dp < 0 ∧ ¬ n < 0) ∧ (sp.toNatClampNeg + n.toNatClampNeg ≤ ln r1 ∧ dp.toNatClampNeg + n.toNatClampNeg ≤ ln r2) ∧ K (sC S r1 sp.toNatClampNeg r2 dp.toNatClampNeg n.toNatClampNeg)
theorem mm_max : Cond.code Lib.Math.max.name Lib.Math.max.code 2 (some .int) ∈ gtbl := gt_ 419 (by decide +kernel) (by decide +kernel)
theorem mm_max_n : Lib.Math.max.name = yJ9_max_7cf53 := by decide +kernel
theorem r_mmax (F : CallFix p m c cc nL s args gtbl own) (hsz : ls.size = nL) (hw : Cond.methodLink own idx yJ9_max_7cf53 ∈ gtbl) (hfr : 1 ≤ R.frames) (hlo : (rest.map fun v => v.category).sum + 13 ≤ R.locals) (hc : cells ≤ R.cells) (hs : slots ≤ R.slots) {x y : Int32} (hdg : decode cc pc = .ok (.invokestatic idx, 3)) {K : Int32 → Prop} (h : lt_ (if x < y then y else x) K) (kk : ∀ z, K z → W p l e R s m args below meth c H locs cells slots Q (F0 m (pc + 3) ls (.int z :: rest))) : W p l e R s m args below meth c H locs cells slots Q (F0 m pc ls (.int y :: .int x :: rest)) :=
  va_mmax F.1 F.2.1 (F.2.2.1.trans hsz.symm) F.2.2.2.1 (F.2.2.2.2 _ (by rw [mm_max_n]; exact hw)) (F.2.2.2.2 _ (by rw [mm_max_n]; exact tw_418)) (F.2.2.2.2 _ tw_68) (F.2.2.2.2 _ mm_max) hfr hlo hc hs hdg (kk _ h)
theorem mm_min : Cond.code Lib.Math.min.name Lib.Math.min.code 2 (some .int) ∈ gtbl := gt_ 379 (by decide +kernel) (by decide +kernel)
theorem mm_min_n : Lib.Math.min.name = yJ9_min_7cf53 := by decide +kernel
theorem r_mmin (F : CallFix p m c cc nL s args gtbl own) (hsz : ls.size = nL) (hw : Cond.methodLink own idx yJ9_min_7cf53 ∈ gtbl) (hfr : 1 ≤ R.frames) (hlo : (rest.map fun v => v.category).sum + 13 ≤ R.locals) (hc : cells ≤ R.cells) (hs : slots ≤ R.slots) {x y : Int32} (hdg : decode cc pc = .ok (.invokestatic idx, 3)) {K : Int32 → Prop} (h : lt_ (if y < x then y else x) K) (kk : ∀ z, K z → W p l e R s m args below meth c H locs cells slots Q (F0 m (pc + 3) ls (.int z :: rest))) : W p l e R s m args below meth c H locs cells slots Q (F0 m pc ls (.int y :: .int x :: rest)) :=
  va_mmin F.1 F.2.1 (F.2.2.1.trans hsz.symm) F.2.2.2.1 (F.2.2.2.2 _ (by rw [mm_min_n]; exact hw)) (F.2.2.2.2 _ (by rw [mm_min_n]; exact tw_378)) (F.2.2.2.2 _ tw_68) (F.2.2.2.2 _ mm_min) hfr hlo hc hs hdg (kk _ h)
theorem mm_abs : Cond.code Lib.Math.abs.name Lib.Math.abs.code 1 (some .int) ∈ gtbl := gt_ 609 (by decide +kernel) (by decide +kernel)
theorem mm_abs_n : Lib.Math.abs.name = yJ9_abs_0f7a4 := by decide +kernel
theorem r_mabs (F : CallFix p m c cc nL s args gtbl own) (hsz : ls.size = nL) (hw : Cond.methodLink own idx yJ9_abs_0f7a4 ∈ gtbl) (hfr : 1 ≤ R.frames) (hlo : (rest.map fun v => v.category).sum + 13 ≤ R.locals) (hc : cells ≤ R.cells) (hs : slots ≤ R.slots) {x : Int32} (hdg : decode cc pc = .ok (.invokestatic idx, 3)) {K : Int32 → Prop} (h : lt_ (if 0 ≤ x then x else 0 - x) K) (kk : ∀ z, K z → W p l e R s m args below meth c H locs cells slots Q (F0 m (pc + 3) ls (.int z :: rest))) : W p l e R s m args below meth c H locs cells slots Q (F0 m pc ls (.int x :: rest)) :=
  va_mabs F.1 F.2.1 (F.2.2.1.trans hsz.symm) F.2.2.2.1 (F.2.2.2.2 _ (by rw [mm_abs_n]; exact hw)) (F.2.2.2.2 _ (by rw [mm_abs_n]; exact tw_608)) (F.2.2.2.2 _ tw_68) (F.2.2.2.2 _ mm_abs) hfr hlo hc hs hdg (kk _ h)
theorem toInt_nn {z : Int32} (hz : ¬ z < 0) : z.toInt = (z.toNatClampNeg : Int) := by
  have hz0 : (0 : Int) ≤ z.toInt := by
    have := Int32.not_lt.mp hz
    simpa using Int32.le_iff_toInt_le.mp this
  show z.toInt = ((z.toInt.toNat : Nat) : Int)
  omega
theorem r_copy (F : CallFix p m c cc nL s args gtbl own) (I : Inv g N ln S s H locs) {r1 r2 : Nat} (hr1 : r1 < N) (hk1 : kd r1 = 9) (hr2 : r2 < N) (hk2 : kd r2 = 9) (hsz : ls.size = nL) (w1 : Cond.methodLink own idx arraycopyName ∈ gtbl) (w2 : Cond.native arraycopyName ∈ gtbl) (w3 : Cond.static arraycopyName ∈ gtbl) (w4 : Cond.initialized "java/lang/System" ∈ gtbl) (hfr : 1 ≤ R.frames) (hlo : (rest.map fun v => v.category).sum + (nativeFrameWords "java/lang/System" "arraycopy" 5 + 11) ≤ R.locals) (hdg : decode cc pc = .ok (.invokestatic idx, 3)) {sp dp n : Int32} {K : HC → Prop} (h : cp_ ln S r1 sp r2 dp n K)
    (kk : ∀ (S1 : HC) (H1 : Heap) (locs1 : List Loc), Inv g N ln S1 s H1 locs1 → K S1 → W p l e R s m args below meth c H1 locs1 cells slots Q (F0 m (pc + 3) ls rest)) : W p l e R s m args below meth c H locs cells slots Q (F0 m pc ls (.int n :: .int dp :: .ref (gz g + r2) :: .int sp :: .ref (gz g + r1) :: rest)) := by
  obtain ⟨⟨h1, h2, h3⟩, ⟨h4, h5⟩, h6⟩ := h
  obtain ⟨hx, hb, hml, hown, hts⟩ := F
  intro T hT X
  have hc1 : H[gz g + r1]? = some (vp_cell (gA g 9) (ln r1, .inl (hI S r1))) := I.P r1 _ (wl_eq hr1 (ce_i hk1 (Or.inl rfl)))
  have hc2 : H[gz g + r2]? = some (vp_cell (gA g 9) (ln r2, .inl (hI S r2))) := I.P r2 _ (wl_eq hr2 (ce_i hk2 (Or.inl rfl)))
  obtain ⟨-, k0, hk0, cm0, hkk0⟩ := (I.K.2 0 _ rfl).1 (ln r1) (fun j => .int (hI S r1 j))
  obtain ⟨-, k1, hk1', cm1, hkk1⟩ := (I.K.2 0 _ rfl).1 (ln r2) (fun j => .int (hI S r2 j))
  obtain ⟨vm', X', step⟩ := X.arraycopy hx hown (hts _ w1) (hts _ w2) (hts _ w3) (hts _ w4) (src := gz g + r1) (dst := gz g + r2) (cs := vp_cell (gA g 9) (ln r1, .inl (hI S r1))) (cd := vp_cell (gA g 9) (ln r2, .inl (hI S r2))) (srcPos := sp) (destPos := dp) (n := n) (by rw [hT]; exact hc1) (by rw [hT]; exact hc2)
    (fun _ h => by cases h) (fun _ h => by cases h) (fun h => by cases h) (fun h => by cases h) hk0 hk1' hkk0 hkk1 (by show (refKind .int != refKind .int || !refKind .int && FieldType.int != FieldType.int) = false; decide) h1 h2 h3
    (by rw [toInt_nn h1, toInt_nn h3]; show ¬ _ > ((arrV _ (ln r1) _).slots.size : Int); rw [arrV_size]; omega)
    (by rw [toInt_nn h2, toInt_nn h3]; show ¬ _ > ((arrV _ (ln r2) _).slots.size : Int); rw [arrV_size]; omega)
    (fun vm₁ _ i hi => by
      have e : (vp_cell (gA g 9) (ln r1, .inl (hI S r1))).slots.getD (sp.toNatClampNeg + i) .null = .int (hI S r1 (sp.toNatClampNeg + i)) := by
        show (arrV _ (ln r1) (fun j => .int (hI S r1 j))).slots.getD _ _ = _
        rw [Array.getD_eq_getD_getElem?, arrV_read _ _ (by omega)]
        rfl
      rw [e]
      exact ⟨rfl, trivial⟩)
    (g := F0 m pc ls (.int n :: .int dp :: .ref (gz g + r2) :: .int sp :: .ref (gz g + r1) :: rest)) rfl (by rw [hml]; exact hsz) (rest := rest) rfl (by rw [hb]; exact hdg) hfr (by show 2 * 0 + _ + _ ≤ _; omega)
  have e1 : copied (vp_cell (gA g 9) (ln r1, .inl (hI S r1))) (vp_cell (gA g 9) (ln r2, .inl (hI S r2))) sp dp n = vp_cell (gA g 9) (ln r2, .inl (va_cpy (hI S r1) (hI S r2) sp.toNatClampNeg dp.toNatClampNeg n.toNatClampNeg)) := va_copied (fun z => .int z) _ _ _ _ h4
  rw [e1] at X' step
  have hl : gz g + r2 < H.size := (Array.getElem?_eq_some_iff.mp hc2).1
  have hheap : ((T.setVm vm').setCell (gz g + r2) (vp_cell (gA g 9) (ln r2, .inl (va_cpy (hI S r1) (hI S r2) sp.toNatClampNeg dp.toNatClampNeg n.toNatClampNeg)))).heap = H.setIfInBounds (gz g + r2) (vp_cell (gA g 9) (ln r2, .inl (va_cpy (hI S r1) (hI S r2) sp.toNatClampNeg dp.toNatClampNeg n.toNatClampNeg))) := by rw [← hT]; rfl
  have oq : ∀ q : Nat, q ≠ gz g + r2 → (H.setIfInBounds (gz g + r2) (vp_cell (gA g 9) (ln r2, .inl (va_cpy (hI S r1) (hI S r2) sp.toNatClampNeg dp.toNatClampNeg n.toNatClampNeg))))[q]? = H[q]? := fun q hq => by simp [Array.getElem?_setIfInBounds, Ne.symm hq]
  have I1 : Inv g N ln (sC S r1 sp.toNatClampNeg r2 dp.toNatClampNeg n.toNatClampNeg) s (H.setIfInBounds (gz g + r2) (vp_cell (gA g 9) (ln r2, .inl (va_cpy (hI S r1) (hI S r2) sp.toNatClampNeg dp.toNatClampNeg n.toNatClampNeg)))) (locs ++ [⟨gz g + r2, 0⟩]) := by
    refine I.wr2 hr2 ?_ (by simp) oq ce_sC (I.T.sC _ _ _ _ _)
    rw [ce_i hk2 (Or.inl rfl)]
    show (H.setIfInBounds (gz g + r2) _)[gz g + r2]? = some (vp_cell _ _)
    rw [show hI (sC S r1 sp.toNatClampNeg r2 dp.toNatClampNeg n.toNatClampNeg) r2 = va_cpy (hI S r1) (hI S r2) sp.toNatClampNeg dp.toNatClampNeg n.toNatClampNeg by funext b; simp [hI, sC, up1]; rfl]
    simp [Array.getElem?_setIfInBounds, hl]
  have I2 : ∀ locs1, (∀ q ∈ locs1, gF g q.base) → Inv g N ln (sC S r1 sp.toNatClampNeg r2 dp.toNatClampNeg n.toNatClampNeg) s (H.setIfInBounds (gz g + r2) (vp_cell (gA g 9) (ln r2, .inl (va_cpy (hI S r1) (hI S r2) sp.toNatClampNeg dp.toNatClampNeg n.toNatClampNeg)))) locs1 := fun locs1 hq => ⟨I1.1, I1.2.1, I1.2.2.1, I1.S.1, I1.S.2.1, hq⟩
  obtain ⟨t, a1, b1⟩ := kk _ _ _ (I2 _ (fun q hq => by
      rcases List.mem_append.mp hq with h | h
      · exact I.S.2.2 q h
      · obtain ⟨z, -, hz⟩ := List.mem_map.mp h
        rw [← hz]
        exact Nat.le_add_right _ _)) h6 _ hheap X'
  exact ⟨t, step t a1, b1⟩
end RY
