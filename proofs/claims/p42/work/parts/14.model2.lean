theorem bdX8_thinks_0 : ∀ q ∈ ([(0, .iconst 0, 1), (1, .istore_n 1, 1), (2, .iload_n 1, 1), (3, .bipush 89, 2), (5, .if_icmp .ge 21, 3), (8, .aload_n 0, 1), (9, .getfield 22, 3), (12, .iload_n 1, 1), (13, .aload_n 0, 1), (14, .getfield 9, 3), (17, .iload_n 1, 1), (18, .iaload, 1), (19, .iastore, 1), (20, .iinc 1 1, 3), (23, .goto (-21), 3), (26, .return_, 1)] : List (Nat × Jvm.ClassFile.Instr × Nat)), decode cX8_thinks q.1 = .ok q.2 := chk_ok _ 0 _ rfl (by decide +kernel)
theorem dX8_thinks_0 : decode cX8_thinks 0 = .ok (.iconst 0, 1) := bdX8_thinks_0 (0, .iconst 0, 1) (List.mem_of_getElem? (i := 0) rfl)
theorem dX8_thinks_1 : decode cX8_thinks 1 = .ok (.istore_n 1, 1) := bdX8_thinks_0 (1, .istore_n 1, 1) (List.mem_of_getElem? (i := 1) rfl)
theorem dX8_thinks_2 : decode cX8_thinks 2 = .ok (.iload_n 1, 1) := bdX8_thinks_0 (2, .iload_n 1, 1) (List.mem_of_getElem? (i := 2) rfl)
theorem dX8_thinks_3 : decode cX8_thinks 3 = .ok (.bipush 89, 2) := bdX8_thinks_0 (3, .bipush 89, 2) (List.mem_of_getElem? (i := 3) rfl)
theorem dX8_thinks_5 : decode cX8_thinks 5 = .ok (.if_icmp .ge 21, 3) := bdX8_thinks_0 (5, .if_icmp .ge 21, 3) (List.mem_of_getElem? (i := 4) rfl)
theorem dX8_thinks_8 : decode cX8_thinks 8 = .ok (.aload_n 0, 1) := bdX8_thinks_0 (8, .aload_n 0, 1) (List.mem_of_getElem? (i := 5) rfl)
theorem dX8_thinks_9 : decode cX8_thinks 9 = .ok (.getfield 22, 3) := bdX8_thinks_0 (9, .getfield 22, 3) (List.mem_of_getElem? (i := 6) rfl)
theorem dX8_thinks_12 : decode cX8_thinks 12 = .ok (.iload_n 1, 1) := bdX8_thinks_0 (12, .iload_n 1, 1) (List.mem_of_getElem? (i := 7) rfl)
theorem dX8_thinks_13 : decode cX8_thinks 13 = .ok (.aload_n 0, 1) := bdX8_thinks_0 (13, .aload_n 0, 1) (List.mem_of_getElem? (i := 8) rfl)
theorem dX8_thinks_14 : decode cX8_thinks 14 = .ok (.getfield 9, 3) := bdX8_thinks_0 (14, .getfield 9, 3) (List.mem_of_getElem? (i := 9) rfl)
theorem dX8_thinks_17 : decode cX8_thinks 17 = .ok (.iload_n 1, 1) := bdX8_thinks_0 (17, .iload_n 1, 1) (List.mem_of_getElem? (i := 10) rfl)
theorem dX8_thinks_18 : decode cX8_thinks 18 = .ok (.iaload, 1) := bdX8_thinks_0 (18, .iaload, 1) (List.mem_of_getElem? (i := 11) rfl)
theorem dX8_thinks_19 : decode cX8_thinks 19 = .ok (.iastore, 1) := bdX8_thinks_0 (19, .iastore, 1) (List.mem_of_getElem? (i := 12) rfl)
theorem dX8_thinks_20 : decode cX8_thinks 20 = .ok (.iinc 1 1, 3) := bdX8_thinks_0 (20, .iinc 1 1, 3) (List.mem_of_getElem? (i := 13) rfl)
theorem dX8_thinks_23 : decode cX8_thinks 23 = .ok (.goto (-21), 3) := bdX8_thinks_0 (23, .goto (-21), 3) (List.mem_of_getElem? (i := 14) rfl)
theorem dX8_thinks_26 : decode cX8_thinks 26 = .ok (.return_, 1) := bdX8_thinks_0 (26, .return_, 1) (List.mem_of_getElem? (i := 15) rfl)
theorem fX8_22 : fldOK RX8 22 8 5 (.array .int) true := ⟨_, _, _, tyX8, ⟨rfl, iX8, by decide, rfl, by decide⟩, tw_942, ⟨tyX8_ok, nmX8⟩, by decide +kernel, rfl, rfl⟩
def LX8_thinks_2 (ln : Nat → Nat) (post : HC → Prop) : Nat → HC → Nat → Int32 → Prop
  | 0 => fun _ _ _ => False
  | n2 + 1 => fun S x0 x1 => if (89 : Int32) ≤ x1 then (post S) else (dn_ (hR S x0 5) fun b1 => dn_ (hR S x0 0) fun b2 => al_ (ln b2) x1 (hI S b2) fun z3 => as_ (ln b1) x1 (fun j => sI S b1 j z3) fun S => lt_ (x1 + (1 : Int32)) fun z4 => (LX8_thinks_2 ln post n2) S x0 z4)
def wpX8_thinks (ln : Nat → Nat) (S : HC) (a0 : Nat) (post : HC → Prop) : Prop := ∃ n2, LX8_thinks_2 ln post n2 S a0 (0 : Int32)
abbrev rmX8_thinks : Room := { frames := 0, cells := 0, slots := 0, locals := 0 }
set_option maxHeartbeats 4000000 in
set_option maxRecDepth 100000 in
theorem ctX8_thinks {l : Launch} {g : GX} {N : Nat} {ln : Nat → Nat} {S : HC} {a0 : Nat} {post : HC → Prop} (hr_a0 : a0 < N) (hk_a0 : kd a0 = 8) (h : wpX8_thinks ln S a0 post) : Met l yX8_thinks (Cond.code yX8_thinks prog_10_method_44_code 2 (Option.none : Option Jvm.ClassFile.FieldType) :: gtbl) rmX8_thinks (va_Pc [.ref (gz g + a0)] (AtP g N ln S)) (QV g N ln post) 0 0 (gF g) := by
  refine m_of (by decide) (Nat.le_of_ble_eq_true rfl) ?_
  intro p e s m below meth c ls F hr I hl
  have hl : lv_has ls 2 [(0, .ref (gz g + a0))] := hl
  unfold wpX8_thinks at h
  have hl_2 : ∀ n2 : Nat, ∀ (S : HC) (H : Heap) (locs : List Loc) (ls : Array Slot) (x0 : Nat) (x1 : Int32), x0 < N → kd x0 = 8 → LX8_thinks_2 ln post n2 S x0 x1 → Inv g N ln S s H locs → lv_has ls 2 [(0, .ref (gz g + x0)), (1, .int x1)] → W p l e rmX8_thinks s m ([.ref (gz g + a0)] : List Value).toArray below meth c H locs 0 0 (MQ below (QV g N ln post) ([.ref (gz g + a0)] : List Value).toArray s 0 0 (gF g)) (F0 m 2 ls []) := by
    intro n2
    induction n2 with
    | zero =>
      intro S H locs ls x0 x1 hr_x0 hk_x0 h I hl
      exact h.elim
    | succ n2 ih =>
      have hk2 := ih
      intro S H locs ls x0 x1 hr_x0 hk_x0 h I hl
      rw [LX8_thinks_2] at h
      refine lv_iload_n F.1 F.2.1 dX8_thinks_2 rfl (lv_at hl 1 rfl) ?_
      refine lv_bipush (v := 89) F.1 F.2.1 dX8_thinks_3 (by decide) ?_
      refine r_icmp_ge (tgt := 26) F dX8_thinks_5 (by decide) h (fun h => ?_) (fun h => ?_)
      · exact r_vreturn F I ⟨hr.1, hr.2.1, trivial⟩ h dX8_thinks_26
      · refine lv_aload_n F.1 F.2.1 dX8_thinks_8 rfl (lv_at hl 0 rfl) ?_
        refine r_getN F I hr_x0 hk_x0 fX8_22 (f := 9) rfl (by decide) dX8_thinks_9 h (fun b1 hr_b1 hk_b1 h => ?_)
        refine lv_iload_n F.1 F.2.1 dX8_thinks_12 rfl (lv_at hl 1 rfl) ?_
        refine lv_aload_n F.1 F.2.1 dX8_thinks_13 rfl (lv_at hl 0 rfl) ?_
        refine r_getN F I hr_x0 hk_x0 fX8_9 (f := 9) rfl (by decide) dX8_thinks_14 h (fun b2 hr_b2 hk_b2 h => ?_)
        refine lv_iload_n F.1 F.2.1 dX8_thinks_17 rfl (lv_at hl 1 rfl) ?_
        refine r_ald F I hr_b2 hk_b2 dX8_thinks_18 h (fun z3 h => ?_)
        refine r_ast F I hr_b1 hk_b1 dX8_thinks_19 h (fun S H locs I h => ?_)
        obtain ⟨z4, e_z4, h⟩ := lt_x h
        refine lv_iinc (v := z4) (lv' := [(1, .int z4), (0, .ref (gz g + x0))]) F.1 F.2.1 dX8_thinks_20 hl (k := 1) rfl (by rw [e_z4]; rfl) (by decide) rfl (fun ls hl => ?_)
        refine lv_goto (tgt := 2) F.1 F.2.1 dX8_thinks_23 (by decide) ?_
        exact hk2 S _ _ _ x0 z4 hr_x0 hk_x0 h I (lv_sub hl [1, 0] rfl)
  refine lv_iconst (v := 0) F.1 F.2.1 dX8_thinks_0 (by decide) ?_
  refine lv_istore_n (lv' := [(1, .int (0 : Int32)), (0, .ref (gz g + a0))]) F.1 F.2.1 dX8_thinks_1 rfl hl (by decide) rfl (fun ls hl => ?_)
  obtain ⟨n2, h⟩ := h
  exact hl_2 n2 S _ _ _ a0 (0 : Int32) hr_a0 hk_a0 h I (lv_sub hl [1, 0] rfl)
theorem bdX8_putsBack_0 : ∀ q ∈ ([(0, .iconst 0, 1), (1, .istore_n 1, 1), (2, .iload_n 1, 1), (3, .bipush 89, 2), (5, .if_icmp .ge 21, 3), (8, .aload_n 0, 1), (9, .getfield 9, 3), (12, .iload_n 1, 1), (13, .aload_n 0, 1), (14, .getfield 22, 3), (17, .iload_n 1, 1), (18, .iaload, 1), (19, .iastore, 1), (20, .iinc 1 1, 3), (23, .goto (-21), 3), (26, .return_, 1)] : List (Nat × Jvm.ClassFile.Instr × Nat)), decode cX8_putsBack q.1 = .ok q.2 := chk_ok _ 0 _ rfl (by decide +kernel)
theorem dX8_putsBack_0 : decode cX8_putsBack 0 = .ok (.iconst 0, 1) := bdX8_putsBack_0 (0, .iconst 0, 1) (List.mem_of_getElem? (i := 0) rfl)
theorem dX8_putsBack_1 : decode cX8_putsBack 1 = .ok (.istore_n 1, 1) := bdX8_putsBack_0 (1, .istore_n 1, 1) (List.mem_of_getElem? (i := 1) rfl)
theorem dX8_putsBack_2 : decode cX8_putsBack 2 = .ok (.iload_n 1, 1) := bdX8_putsBack_0 (2, .iload_n 1, 1) (List.mem_of_getElem? (i := 2) rfl)
theorem dX8_putsBack_3 : decode cX8_putsBack 3 = .ok (.bipush 89, 2) := bdX8_putsBack_0 (3, .bipush 89, 2) (List.mem_of_getElem? (i := 3) rfl)
theorem dX8_putsBack_5 : decode cX8_putsBack 5 = .ok (.if_icmp .ge 21, 3) := bdX8_putsBack_0 (5, .if_icmp .ge 21, 3) (List.mem_of_getElem? (i := 4) rfl)
theorem dX8_putsBack_8 : decode cX8_putsBack 8 = .ok (.aload_n 0, 1) := bdX8_putsBack_0 (8, .aload_n 0, 1) (List.mem_of_getElem? (i := 5) rfl)
theorem dX8_putsBack_9 : decode cX8_putsBack 9 = .ok (.getfield 9, 3) := bdX8_putsBack_0 (9, .getfield 9, 3) (List.mem_of_getElem? (i := 6) rfl)
theorem dX8_putsBack_12 : decode cX8_putsBack 12 = .ok (.iload_n 1, 1) := bdX8_putsBack_0 (12, .iload_n 1, 1) (List.mem_of_getElem? (i := 7) rfl)
theorem dX8_putsBack_13 : decode cX8_putsBack 13 = .ok (.aload_n 0, 1) := bdX8_putsBack_0 (13, .aload_n 0, 1) (List.mem_of_getElem? (i := 8) rfl)
theorem dX8_putsBack_14 : decode cX8_putsBack 14 = .ok (.getfield 22, 3) := bdX8_putsBack_0 (14, .getfield 22, 3) (List.mem_of_getElem? (i := 9) rfl)
theorem dX8_putsBack_17 : decode cX8_putsBack 17 = .ok (.iload_n 1, 1) := bdX8_putsBack_0 (17, .iload_n 1, 1) (List.mem_of_getElem? (i := 10) rfl)
theorem dX8_putsBack_18 : decode cX8_putsBack 18 = .ok (.iaload, 1) := bdX8_putsBack_0 (18, .iaload, 1) (List.mem_of_getElem? (i := 11) rfl)
theorem dX8_putsBack_19 : decode cX8_putsBack 19 = .ok (.iastore, 1) := bdX8_putsBack_0 (19, .iastore, 1) (List.mem_of_getElem? (i := 12) rfl)
theorem dX8_putsBack_20 : decode cX8_putsBack 20 = .ok (.iinc 1 1, 3) := bdX8_putsBack_0 (20, .iinc 1 1, 3) (List.mem_of_getElem? (i := 13) rfl)
theorem dX8_putsBack_23 : decode cX8_putsBack 23 = .ok (.goto (-21), 3) := bdX8_putsBack_0 (23, .goto (-21), 3) (List.mem_of_getElem? (i := 14) rfl)
theorem dX8_putsBack_26 : decode cX8_putsBack 26 = .ok (.return_, 1) := bdX8_putsBack_0 (26, .return_, 1) (List.mem_of_getElem? (i := 15) rfl)
def LX8_putsBack_2 (ln : Nat → Nat) (post : HC → Prop) : Nat → HC → Nat → Int32 → Prop
  | 0 => fun _ _ _ => False
  | n2 + 1 => fun S x0 x1 => if (89 : Int32) ≤ x1 then (post S) else (dn_ (hR S x0 0) fun b1 => dn_ (hR S x0 5) fun b2 => al_ (ln b2) x1 (hI S b2) fun z3 => as_ (ln b1) x1 (fun j => sI S b1 j z3) fun S => lt_ (x1 + (1 : Int32)) fun z4 => (LX8_putsBack_2 ln post n2) S x0 z4)
def wpX8_putsBack (ln : Nat → Nat) (S : HC) (a0 : Nat) (post : HC → Prop) : Prop := ∃ n2, LX8_putsBack_2 ln post n2 S a0 (0 : Int32)
abbrev rmX8_putsBack : Room := { frames := 0, cells := 0, slots := 0, locals := 0 }
set_option maxHeartbeats 4000000 in
set_option maxRecDepth 100000 in
theorem ctX8_putsBack {l : Launch} {g : GX} {N : Nat} {ln : Nat → Nat} {S : HC} {a0 : Nat} {post : HC → Prop} (hr_a0 : a0 < N) (hk_a0 : kd a0 = 8) (h : wpX8_putsBack ln S a0 post) : Met l yX8_putsBack (Cond.code yX8_putsBack prog_10_method_45_code 2 (Option.none : Option Jvm.ClassFile.FieldType) :: gtbl) rmX8_putsBack (va_Pc [.ref (gz g + a0)] (AtP g N ln S)) (QV g N ln post) 0 0 (gF g) := by
  refine m_of (by decide) (Nat.le_of_ble_eq_true rfl) ?_
  intro p e s m below meth c ls F hr I hl
  have hl : lv_has ls 2 [(0, .ref (gz g + a0))] := hl
  unfold wpX8_putsBack at h
  have hl_2 : ∀ n2 : Nat, ∀ (S : HC) (H : Heap) (locs : List Loc) (ls : Array Slot) (x0 : Nat) (x1 : Int32), x0 < N → kd x0 = 8 → LX8_putsBack_2 ln post n2 S x0 x1 → Inv g N ln S s H locs → lv_has ls 2 [(0, .ref (gz g + x0)), (1, .int x1)] → W p l e rmX8_putsBack s m ([.ref (gz g + a0)] : List Value).toArray below meth c H locs 0 0 (MQ below (QV g N ln post) ([.ref (gz g + a0)] : List Value).toArray s 0 0 (gF g)) (F0 m 2 ls []) := by
    intro n2
    induction n2 with
    | zero =>
      intro S H locs ls x0 x1 hr_x0 hk_x0 h I hl
      exact h.elim
    | succ n2 ih =>
      have hk2 := ih
      intro S H locs ls x0 x1 hr_x0 hk_x0 h I hl
      rw [LX8_putsBack_2] at h
      refine lv_iload_n F.1 F.2.1 dX8_putsBack_2 rfl (lv_at hl 1 rfl) ?_
      refine lv_bipush (v := 89) F.1 F.2.1 dX8_putsBack_3 (by decide) ?_
      refine r_icmp_ge (tgt := 26) F dX8_putsBack_5 (by decide) h (fun h => ?_) (fun h => ?_)
      · exact r_vreturn F I ⟨hr.1, hr.2.1, trivial⟩ h dX8_putsBack_26
      · refine lv_aload_n F.1 F.2.1 dX8_putsBack_8 rfl (lv_at hl 0 rfl) ?_
        refine r_getN F I hr_x0 hk_x0 fX8_9 (f := 9) rfl (by decide) dX8_putsBack_9 h (fun b1 hr_b1 hk_b1 h => ?_)
        refine lv_iload_n F.1 F.2.1 dX8_putsBack_12 rfl (lv_at hl 1 rfl) ?_
        refine lv_aload_n F.1 F.2.1 dX8_putsBack_13 rfl (lv_at hl 0 rfl) ?_
        refine r_getN F I hr_x0 hk_x0 fX8_22 (f := 9) rfl (by decide) dX8_putsBack_14 h (fun b2 hr_b2 hk_b2 h => ?_)
        refine lv_iload_n F.1 F.2.1 dX8_putsBack_17 rfl (lv_at hl 1 rfl) ?_
        refine r_ald F I hr_b2 hk_b2 dX8_putsBack_18 h (fun z3 h => ?_)
        refine r_ast F I hr_b1 hk_b1 dX8_putsBack_19 h (fun S H locs I h => ?_)
        obtain ⟨z4, e_z4, h⟩ := lt_x h
        refine lv_iinc (v := z4) (lv' := [(1, .int z4), (0, .ref (gz g + x0))]) F.1 F.2.1 dX8_putsBack_20 hl (k := 1) rfl (by rw [e_z4]; rfl) (by decide) rfl (fun ls hl => ?_)
        refine lv_goto (tgt := 2) F.1 F.2.1 dX8_putsBack_23 (by decide) ?_
        exact hk2 S _ _ _ x0 z4 hr_x0 hk_x0 h I (lv_sub hl [1, 0] rfl)
  refine lv_iconst (v := 0) F.1 F.2.1 dX8_putsBack_0 (by decide) ?_
  refine lv_istore_n (lv' := [(1, .int (0 : Int32)), (0, .ref (gz g + a0))]) F.1 F.2.1 dX8_putsBack_1 rfl hl (by decide) rfl (fun ls hl => ?_)
  obtain ⟨n2, h⟩ := h
  exact hl_2 n2 S _ _ _ a0 (0 : Int32) hr_a0 hk_a0 h I (lv_sub hl [1, 0] rfl)
theorem bdX8_allBear_0 : ∀ q ∈ ([(0, .aload_n 0, 1), (1, .iload_n 1, 1), (2, .invokevirtual 130, 3), (5, .iconst 0, 1), (6, .istore_n 2, 1), (7, .iconst 0, 1), (8, .istore_n 3, 1), (9, .iload_n 3, 1), (10, .aload_n 0, 1), (11, .getfield 9, 3), (14, .iconst 1, 1), (15, .iaload, 1), (16, .if_icmp .ge 18, 3), (19, .iload_n 2, 1), (20, .aload_n 0, 1), (21, .iload_n 3, 1), (22, .iload_n 1, 1), (23, .invokevirtual 134, 3), (26, .iadd, 1), (27, .istore_n 2, 1), (28, .iinc 3 1, 3), (31, .goto (-22), 3), (34, .iload_n 2, 1), (35, .ireturn, 1)] : List (Nat × Jvm.ClassFile.Instr × Nat)), decode cX8_allBear q.1 = .ok q.2 := chk_ok _ 0 _ rfl (by decide +kernel)
theorem dX8_allBear_0 : decode cX8_allBear 0 = .ok (.aload_n 0, 1) := bdX8_allBear_0 (0, .aload_n 0, 1) (List.mem_of_getElem? (i := 0) rfl)
theorem dX8_allBear_1 : decode cX8_allBear 1 = .ok (.iload_n 1, 1) := bdX8_allBear_0 (1, .iload_n 1, 1) (List.mem_of_getElem? (i := 1) rfl)
theorem dX8_allBear_2 : decode cX8_allBear 2 = .ok (.invokevirtual 130, 3) := bdX8_allBear_0 (2, .invokevirtual 130, 3) (List.mem_of_getElem? (i := 2) rfl)
theorem dX8_allBear_5 : decode cX8_allBear 5 = .ok (.iconst 0, 1) := bdX8_allBear_0 (5, .iconst 0, 1) (List.mem_of_getElem? (i := 3) rfl)
theorem dX8_allBear_6 : decode cX8_allBear 6 = .ok (.istore_n 2, 1) := bdX8_allBear_0 (6, .istore_n 2, 1) (List.mem_of_getElem? (i := 4) rfl)
theorem dX8_allBear_7 : decode cX8_allBear 7 = .ok (.iconst 0, 1) := bdX8_allBear_0 (7, .iconst 0, 1) (List.mem_of_getElem? (i := 5) rfl)
theorem dX8_allBear_8 : decode cX8_allBear 8 = .ok (.istore_n 3, 1) := bdX8_allBear_0 (8, .istore_n 3, 1) (List.mem_of_getElem? (i := 6) rfl)
theorem dX8_allBear_9 : decode cX8_allBear 9 = .ok (.iload_n 3, 1) := bdX8_allBear_0 (9, .iload_n 3, 1) (List.mem_of_getElem? (i := 7) rfl)
theorem dX8_allBear_10 : decode cX8_allBear 10 = .ok (.aload_n 0, 1) := bdX8_allBear_0 (10, .aload_n 0, 1) (List.mem_of_getElem? (i := 8) rfl)
theorem dX8_allBear_11 : decode cX8_allBear 11 = .ok (.getfield 9, 3) := bdX8_allBear_0 (11, .getfield 9, 3) (List.mem_of_getElem? (i := 9) rfl)
theorem dX8_allBear_14 : decode cX8_allBear 14 = .ok (.iconst 1, 1) := bdX8_allBear_0 (14, .iconst 1, 1) (List.mem_of_getElem? (i := 10) rfl)
theorem dX8_allBear_15 : decode cX8_allBear 15 = .ok (.iaload, 1) := bdX8_allBear_0 (15, .iaload, 1) (List.mem_of_getElem? (i := 11) rfl)
theorem dX8_allBear_16 : decode cX8_allBear 16 = .ok (.if_icmp .ge 18, 3) := bdX8_allBear_0 (16, .if_icmp .ge 18, 3) (List.mem_of_getElem? (i := 12) rfl)
theorem dX8_allBear_19 : decode cX8_allBear 19 = .ok (.iload_n 2, 1) := bdX8_allBear_0 (19, .iload_n 2, 1) (List.mem_of_getElem? (i := 13) rfl)
theorem dX8_allBear_20 : decode cX8_allBear 20 = .ok (.aload_n 0, 1) := bdX8_allBear_0 (20, .aload_n 0, 1) (List.mem_of_getElem? (i := 14) rfl)
theorem dX8_allBear_21 : decode cX8_allBear 21 = .ok (.iload_n 3, 1) := bdX8_allBear_0 (21, .iload_n 3, 1) (List.mem_of_getElem? (i := 15) rfl)
theorem dX8_allBear_22 : decode cX8_allBear 22 = .ok (.iload_n 1, 1) := bdX8_allBear_0 (22, .iload_n 1, 1) (List.mem_of_getElem? (i := 16) rfl)
theorem dX8_allBear_23 : decode cX8_allBear 23 = .ok (.invokevirtual 134, 3) := bdX8_allBear_0 (23, .invokevirtual 134, 3) (List.mem_of_getElem? (i := 17) rfl)
theorem dX8_allBear_26 : decode cX8_allBear 26 = .ok (.iadd, 1) := bdX8_allBear_0 (26, .iadd, 1) (List.mem_of_getElem? (i := 18) rfl)
theorem dX8_allBear_27 : decode cX8_allBear 27 = .ok (.istore_n 2, 1) := bdX8_allBear_0 (27, .istore_n 2, 1) (List.mem_of_getElem? (i := 19) rfl)
theorem dX8_allBear_28 : decode cX8_allBear 28 = .ok (.iinc 3 1, 3) := bdX8_allBear_0 (28, .iinc 3 1, 3) (List.mem_of_getElem? (i := 20) rfl)
theorem dX8_allBear_31 : decode cX8_allBear 31 = .ok (.goto (-22), 3) := bdX8_allBear_0 (31, .goto (-22), 3) (List.mem_of_getElem? (i := 21) rfl)
theorem dX8_allBear_34 : decode cX8_allBear 34 = .ok (.iload_n 2, 1) := bdX8_allBear_0 (34, .iload_n 2, 1) (List.mem_of_getElem? (i := 22) rfl)
theorem dX8_allBear_35 : decode cX8_allBear 35 = .ok (.ireturn, 1) := bdX8_allBear_0 (35, .ireturn, 1) (List.mem_of_getElem? (i := 23) rfl)
def LX8_allBear_9 (ln : Nat → Nat) (post : Int32 → HC → Prop) : Nat → HC → Nat → Int32 → Int32 → Int32 → Prop
  | 0 => fun _ _ _ _ _ => False
  | n9 + 1 => fun S x0 x1 x2 x3 => dn_ (hR S x0 0) fun b1 => al_ (ln b1) (1 : Int32) (hI S b1) fun z2 => if z2 ≤ x3 then (post x2 S) else (wpX8_borne ln S x0 x3 x1 fun z3 S => lt_ (x2 + z3) fun z4 => lt_ (x3 + (1 : Int32)) fun z5 => (LX8_allBear_9 ln post n9) S x0 x1 z4 z5)
def wpX8_allBear (ln : Nat → Nat) (S : HC) (a0 : Nat) (a1 : Int32) (post : Int32 → HC → Prop) : Prop := wpX8_worksOf ln S a0 a1 fun S => ∃ n9, LX8_allBear_9 ln post n9 S a0 a1 (0 : Int32) (0 : Int32)
abbrev rmX8_allBear : Room := { frames := 6, cells := 0, slots := 0, locals := 144 }
set_option maxHeartbeats 4000000 in
set_option maxRecDepth 100000 in
theorem ctX8_allBear {l : Launch} {g : GX} {N : Nat} {ln : Nat → Nat} {S : HC} {a0 : Nat} {a1 : Int32} {post : Int32 → HC → Prop} (hr_a0 : a0 < N) (hk_a0 : kd a0 = 8) (h : wpX8_allBear ln S a0 a1 post) : Met l yX8_allBear (Cond.code yX8_allBear prog_10_method_46_code 4 (Option.some Jvm.ClassFile.FieldType.int) :: gtbl) rmX8_allBear (va_Pc [.ref (gz g + a0), .int a1] (AtP g N ln S)) (QI g N ln post) 0 0 (gF g) := by
  refine m_of (by decide) (Nat.le_of_ble_eq_true rfl) ?_
  intro p e s m below meth c ls F hr I hl
  have hl : lv_has ls 4 [(0, .ref (gz g + a0)), (1, .int a1)] := hl
  unfold wpX8_allBear at h
  have hl_9 : ∀ n9 : Nat, ∀ (S : HC) (H : Heap) (locs : List Loc) (ls : Array Slot) (x0 : Nat) (x1 : Int32) (x2 : Int32) (x3 : Int32), x0 < N → kd x0 = 8 → LX8_allBear_9 ln post n9 S x0 x1 x2 x3 → Inv g N ln S s H locs → lv_has ls 4 [(0, .ref (gz g + x0)), (1, .int x1), (2, .int x2), (3, .int x3)] → W p l e rmX8_allBear s m ([.ref (gz g + a0), .int a1] : List Value).toArray below meth c H locs 0 0 (MQ below (QI g N ln post) ([.ref (gz g + a0), .int a1] : List Value).toArray s 0 0 (gF g)) (F0 m 9 ls []) := by
    intro n9
    induction n9 with
    | zero =>
      intro S H locs ls x0 x1 x2 x3 hr_x0 hk_x0 h I hl
      exact h.elim
    | succ n9 ih =>
      have hk9 := ih
      intro S H locs ls x0 x1 x2 x3 hr_x0 hk_x0 h I hl
      rw [LX8_allBear_9] at h
      refine lv_iload_n F.1 F.2.1 dX8_allBear_9 rfl (lv_at hl 3 rfl) ?_
      refine lv_aload_n F.1 F.2.1 dX8_allBear_10 rfl (lv_at hl 0 rfl) ?_
      refine r_getN F I hr_x0 hk_x0 fX8_9 (f := 9) rfl (by decide) dX8_allBear_11 h (fun b1 hr_b1 hk_b1 h => ?_)
      refine lv_iconst (v := 1) F.1 F.2.1 dX8_allBear_14 (by decide) ?_
      refine r_ald F I hr_b1 hk_b1 dX8_allBear_15 h (fun z2 h => ?_)
      refine r_icmp_ge (tgt := 34) F dX8_allBear_16 (by decide) h (fun h => ?_) (fun h => ?_)
      · refine lv_iload_n F.1 F.2.1 dX8_allBear_34 rfl (lv_at hl 2 rfl) ?_
        exact r_ireturn F I ⟨hr.1, hr.2.1, trivial⟩ h dX8_allBear_35
      · refine lv_iload_n F.1 F.2.1 dX8_allBear_19 rfl (lv_at hl 2 rfl) ?_
        refine lv_aload_n F.1 F.2.1 dX8_allBear_20 rfl (lv_at hl 0 rfl) ?_
        refine lv_iload_n F.1 F.2.1 dX8_allBear_21 rfl (lv_at hl 3 rfl) ?_
        refine lv_iload_n F.1 F.2.1 dX8_allBear_22 rfl (lv_at hl 1 rfl) ?_
        refine g_I I (run_V (As := [.int x3, .int x1]) (rest := [.int x2]) F I hr_x0 hk_x0 (by decide) kX8_134 (ctX8_borne hr_x0 hk_x0 h) ⟨rfl, rfl⟩ ⟨Nat.le_of_ble_eq_true rfl, Nat.le_of_ble_eq_true rfl⟩ rfl hl.1 rfl (Nat.le_of_ble_eq_true rfl) ⟨Nat.le_of_ble_eq_true rfl, Nat.le_of_ble_eq_true rfl⟩ dX8_allBear_23) (fun z3 S H locs I h => ?_)
        refine r_iadd F dX8_allBear_26 h (fun z4 h => ?_)
        refine lv_istore_n (lv' := [(2, .int z4), (0, .ref (gz g + x0)), (1, .int x1), (3, .int x3)]) F.1 F.2.1 dX8_allBear_27 rfl hl (by decide) rfl (fun ls hl => ?_)
        obtain ⟨z5, e_z5, h⟩ := lt_x h
        refine lv_iinc (v := z5) (lv' := [(3, .int z5), (2, .int z4), (0, .ref (gz g + x0)), (1, .int x1)]) F.1 F.2.1 dX8_allBear_28 hl (k := 3) rfl (by rw [e_z5]; rfl) (by decide) rfl (fun ls hl => ?_)
        refine lv_goto (tgt := 9) F.1 F.2.1 dX8_allBear_31 (by decide) ?_
        exact hk9 S _ _ _ x0 x1 z4 z5 hr_x0 hk_x0 h I (lv_sub hl [2, 3, 1, 0] rfl)
  refine lv_aload_n F.1 F.2.1 dX8_allBear_0 rfl (lv_at hl 0 rfl) ?_
  refine lv_iload_n F.1 F.2.1 dX8_allBear_1 rfl (lv_at hl 1 rfl) ?_
  refine g_V I (run_V (As := [.int a1]) (rest := []) F I hr_a0 hk_a0 (by decide) kX8_130 (ctX8_worksOf hr_a0 hk_a0 h) ⟨rfl, rfl⟩ ⟨Nat.le_of_ble_eq_true rfl, Nat.le_of_ble_eq_true rfl⟩ rfl hl.1 rfl (Nat.le_of_ble_eq_true rfl) ⟨Nat.le_of_ble_eq_true rfl, Nat.le_of_ble_eq_true rfl⟩ dX8_allBear_2) (fun S H locs I h => ?_)
  refine lv_iconst (v := 0) F.1 F.2.1 dX8_allBear_5 (by decide) ?_
  refine lv_istore_n (lv' := [(2, .int (0 : Int32)), (0, .ref (gz g + a0)), (1, .int a1)]) F.1 F.2.1 dX8_allBear_6 rfl hl (by decide) rfl (fun ls hl => ?_)
  refine lv_iconst (v := 0) F.1 F.2.1 dX8_allBear_7 (by decide) ?_
  refine lv_istore_n (lv' := [(3, .int (0 : Int32)), (2, .int (0 : Int32)), (0, .ref (gz g + a0)), (1, .int a1)]) F.1 F.2.1 dX8_allBear_8 rfl hl (by decide) rfl (fun ls hl => ?_)
  obtain ⟨n9, h⟩ := h
  exact hl_9 n9 S _ _ _ a0 a1 (0 : Int32) (0 : Int32) hr_a0 hk_a0 h I (lv_sub hl [2, 3, 1, 0] rfl)
theorem bdX8_behind_0 : ∀ q ∈ ([(0, .iload_n 1, 1), (1, .iconst 0, 1), (2, .bipush 100, 2), (4, .invokestatic 79, 3), (7, .ifCond .eq 13, 3), (10, .iload_n 2, 1), (11, .iconst 0, 1), (12, .bipush 9, 2), (14, .invokestatic 79, 3), (17, .ifCond .ne 6, 3), (20, .ldc 98, 2), (22, .ireturn, 1), (23, .aload_n 0, 1), (24, .invokevirtual 173, 3), (27, .aload_n 0, 1), (28, .iload_n 1, 1), (29, .invokevirtual 158, 3), (32, .iload_n 2, 1), (33, .ifCond .ne 12, 3), (36, .aload_n 0, 1), (37, .getfield 9, 3), (40, .iconst 1, 1), (41, .iaload, 1), (42, .goto 22, 3), (45, .iload_n 2, 1), (46, .iconst 1, 1), (47, .if_icmp .ne 10, 3), (50, .aload_n 0, 1), (51, .invokevirtual 167, 3), (54, .goto 10, 3), (57, .aload_n 0, 1), (58, .iload_n 2, 1), (59, .iconst 2, 1), (60, .isub, 1), (61, .invokevirtual 176, 3), (64, .istore_n 3, 1), (65, .aload_n 0, 1), (66, .invokevirtual 179, 3), (69, .iload_n 3, 1), (70, .ireturn, 1)] : List (Nat × Jvm.ClassFile.Instr × Nat)), decode cX8_behind q.1 = .ok q.2 := chk_ok _ 0 _ rfl (by decide +kernel)
theorem dX8_behind_0 : decode cX8_behind 0 = .ok (.iload_n 1, 1) := bdX8_behind_0 (0, .iload_n 1, 1) (List.mem_of_getElem? (i := 0) rfl)
theorem dX8_behind_1 : decode cX8_behind 1 = .ok (.iconst 0, 1) := bdX8_behind_0 (1, .iconst 0, 1) (List.mem_of_getElem? (i := 1) rfl)
theorem dX8_behind_2 : decode cX8_behind 2 = .ok (.bipush 100, 2) := bdX8_behind_0 (2, .bipush 100, 2) (List.mem_of_getElem? (i := 2) rfl)
theorem dX8_behind_4 : decode cX8_behind 4 = .ok (.invokestatic 79, 3) := bdX8_behind_0 (4, .invokestatic 79, 3) (List.mem_of_getElem? (i := 3) rfl)
theorem dX8_behind_7 : decode cX8_behind 7 = .ok (.ifCond .eq 13, 3) := bdX8_behind_0 (7, .ifCond .eq 13, 3) (List.mem_of_getElem? (i := 4) rfl)
theorem dX8_behind_10 : decode cX8_behind 10 = .ok (.iload_n 2, 1) := bdX8_behind_0 (10, .iload_n 2, 1) (List.mem_of_getElem? (i := 5) rfl)
theorem dX8_behind_11 : decode cX8_behind 11 = .ok (.iconst 0, 1) := bdX8_behind_0 (11, .iconst 0, 1) (List.mem_of_getElem? (i := 6) rfl)
theorem dX8_behind_12 : decode cX8_behind 12 = .ok (.bipush 9, 2) := bdX8_behind_0 (12, .bipush 9, 2) (List.mem_of_getElem? (i := 7) rfl)
theorem dX8_behind_14 : decode cX8_behind 14 = .ok (.invokestatic 79, 3) := bdX8_behind_0 (14, .invokestatic 79, 3) (List.mem_of_getElem? (i := 8) rfl)
theorem dX8_behind_17 : decode cX8_behind 17 = .ok (.ifCond .ne 6, 3) := bdX8_behind_0 (17, .ifCond .ne 6, 3) (List.mem_of_getElem? (i := 9) rfl)
theorem dX8_behind_20 : decode cX8_behind 20 = .ok (.ldc 98, 2) := bdX8_behind_0 (20, .ldc 98, 2) (List.mem_of_getElem? (i := 10) rfl)
theorem dX8_behind_22 : decode cX8_behind 22 = .ok (.ireturn, 1) := bdX8_behind_0 (22, .ireturn, 1) (List.mem_of_getElem? (i := 11) rfl)
theorem dX8_behind_23 : decode cX8_behind 23 = .ok (.aload_n 0, 1) := bdX8_behind_0 (23, .aload_n 0, 1) (List.mem_of_getElem? (i := 12) rfl)
theorem dX8_behind_24 : decode cX8_behind 24 = .ok (.invokevirtual 173, 3) := bdX8_behind_0 (24, .invokevirtual 173, 3) (List.mem_of_getElem? (i := 13) rfl)
theorem dX8_behind_27 : decode cX8_behind 27 = .ok (.aload_n 0, 1) := bdX8_behind_0 (27, .aload_n 0, 1) (List.mem_of_getElem? (i := 14) rfl)
theorem dX8_behind_28 : decode cX8_behind 28 = .ok (.iload_n 1, 1) := bdX8_behind_0 (28, .iload_n 1, 1) (List.mem_of_getElem? (i := 15) rfl)
theorem dX8_behind_29 : decode cX8_behind 29 = .ok (.invokevirtual 158, 3) := bdX8_behind_0 (29, .invokevirtual 158, 3) (List.mem_of_getElem? (i := 16) rfl)
theorem dX8_behind_32 : decode cX8_behind 32 = .ok (.iload_n 2, 1) := bdX8_behind_0 (32, .iload_n 2, 1) (List.mem_of_getElem? (i := 17) rfl)
theorem dX8_behind_33 : decode cX8_behind 33 = .ok (.ifCond .ne 12, 3) := bdX8_behind_0 (33, .ifCond .ne 12, 3) (List.mem_of_getElem? (i := 18) rfl)
theorem dX8_behind_36 : decode cX8_behind 36 = .ok (.aload_n 0, 1) := bdX8_behind_0 (36, .aload_n 0, 1) (List.mem_of_getElem? (i := 19) rfl)
theorem dX8_behind_37 : decode cX8_behind 37 = .ok (.getfield 9, 3) := bdX8_behind_0 (37, .getfield 9, 3) (List.mem_of_getElem? (i := 20) rfl)
theorem dX8_behind_40 : decode cX8_behind 40 = .ok (.iconst 1, 1) := bdX8_behind_0 (40, .iconst 1, 1) (List.mem_of_getElem? (i := 21) rfl)
theorem dX8_behind_41 : decode cX8_behind 41 = .ok (.iaload, 1) := bdX8_behind_0 (41, .iaload, 1) (List.mem_of_getElem? (i := 22) rfl)
theorem dX8_behind_42 : decode cX8_behind 42 = .ok (.goto 22, 3) := bdX8_behind_0 (42, .goto 22, 3) (List.mem_of_getElem? (i := 23) rfl)
theorem dX8_behind_45 : decode cX8_behind 45 = .ok (.iload_n 2, 1) := bdX8_behind_0 (45, .iload_n 2, 1) (List.mem_of_getElem? (i := 24) rfl)
theorem dX8_behind_46 : decode cX8_behind 46 = .ok (.iconst 1, 1) := bdX8_behind_0 (46, .iconst 1, 1) (List.mem_of_getElem? (i := 25) rfl)
theorem dX8_behind_47 : decode cX8_behind 47 = .ok (.if_icmp .ne 10, 3) := bdX8_behind_0 (47, .if_icmp .ne 10, 3) (List.mem_of_getElem? (i := 26) rfl)
theorem dX8_behind_50 : decode cX8_behind 50 = .ok (.aload_n 0, 1) := bdX8_behind_0 (50, .aload_n 0, 1) (List.mem_of_getElem? (i := 27) rfl)
theorem dX8_behind_51 : decode cX8_behind 51 = .ok (.invokevirtual 167, 3) := bdX8_behind_0 (51, .invokevirtual 167, 3) (List.mem_of_getElem? (i := 28) rfl)
theorem dX8_behind_54 : decode cX8_behind 54 = .ok (.goto 10, 3) := bdX8_behind_0 (54, .goto 10, 3) (List.mem_of_getElem? (i := 29) rfl)
theorem dX8_behind_57 : decode cX8_behind 57 = .ok (.aload_n 0, 1) := bdX8_behind_0 (57, .aload_n 0, 1) (List.mem_of_getElem? (i := 30) rfl)
theorem dX8_behind_58 : decode cX8_behind 58 = .ok (.iload_n 2, 1) := bdX8_behind_0 (58, .iload_n 2, 1) (List.mem_of_getElem? (i := 31) rfl)
theorem dX8_behind_59 : decode cX8_behind 59 = .ok (.iconst 2, 1) := bdX8_behind_0 (59, .iconst 2, 1) (List.mem_of_getElem? (i := 32) rfl)
theorem dX8_behind_60 : decode cX8_behind 60 = .ok (.isub, 1) := bdX8_behind_0 (60, .isub, 1) (List.mem_of_getElem? (i := 33) rfl)
theorem dX8_behind_61 : decode cX8_behind 61 = .ok (.invokevirtual 176, 3) := bdX8_behind_0 (61, .invokevirtual 176, 3) (List.mem_of_getElem? (i := 34) rfl)
theorem dX8_behind_64 : decode cX8_behind 64 = .ok (.istore_n 3, 1) := bdX8_behind_0 (64, .istore_n 3, 1) (List.mem_of_getElem? (i := 35) rfl)
theorem dX8_behind_65 : decode cX8_behind 65 = .ok (.aload_n 0, 1) := bdX8_behind_0 (65, .aload_n 0, 1) (List.mem_of_getElem? (i := 36) rfl)
theorem dX8_behind_66 : decode cX8_behind 66 = .ok (.invokevirtual 179, 3) := bdX8_behind_0 (66, .invokevirtual 179, 3) (List.mem_of_getElem? (i := 37) rfl)
theorem dX8_behind_69 : decode cX8_behind 69 = .ok (.iload_n 3, 1) := bdX8_behind_0 (69, .iload_n 3, 1) (List.mem_of_getElem? (i := 38) rfl)
theorem dX8_behind_70 : decode cX8_behind 70 = .ok (.ireturn, 1) := bdX8_behind_0 (70, .ireturn, 1) (List.mem_of_getElem? (i := 39) rfl)
theorem kX8_179 : mthV RX8 179 8 yX8_putsBack prog_10_method_45_code 2 (Option.none : Option Jvm.ClassFile.FieldType) 0 := ⟨⟨⟨tw_1229, tw_67, tw_1232⟩, rfl, by decide +kernel⟩, tw_1231, tw_46, rfl⟩
theorem kX8_173 : mthV RX8 173 8 yX8_thinks prog_10_method_44_code 2 (Option.none : Option Jvm.ClassFile.FieldType) 0 := ⟨⟨⟨tw_1221, tw_67, tw_1224⟩, rfl, by decide +kernel⟩, tw_1223, tw_44, rfl⟩
theorem kX8_176 : mthV RX8 176 8 yX8_allBear prog_10_method_46_code 4 (Option.some Jvm.ClassFile.FieldType.int) 1 := ⟨⟨⟨tw_1225, tw_67, tw_1228⟩, rfl, by decide +kernel⟩, tw_1227, tw_45, rfl⟩
def BX8_behind_64 (ln : Nat → Nat) (post : Int32 → HC → Prop) (S : HC) (x0 : Nat) (t0 : Int32) : Prop := wpX8_putsBack ln S x0 fun S => post t0 S
def BX8_behind_20 (ln : Nat → Nat) (post : Int32 → HC → Prop) (S : HC)  : Prop := post (-1000000001 : Int32) S
def wpX8_behind (ln : Nat → Nat) (S : HC) (a0 : Nat) (a1 : Int32) (a2 : Int32) (post : Int32 → HC → Prop) : Prop := wpX8_in ln S a1 (0 : Int32) (100 : Int32) fun z1 S => if z1 = 0 then (BX8_behind_20 ln post S) else (wpX8_in ln S a2 (0 : Int32) (9 : Int32) fun z2 S => if z2 = 0 then (BX8_behind_20 ln post S) else (wpX8_thinks ln S a0 fun S => wpX8_goesOn ln S a0 a1 fun S => if a2 = 0 then (dn_ (hR S a0 0) fun b6 => al_ (ln b6) (1 : Int32) (hI S b6) fun z7 => BX8_behind_64 ln post S a0 z7) else (if a2 = (1 : Int32) then (wpX8_clashes ln S a0 fun z5 S => BX8_behind_64 ln post S a0 z5) else (lt_ (a2 - (2 : Int32)) fun z3 => wpX8_allBear ln S a0 z3 fun z4 S => BX8_behind_64 ln post S a0 z4))))
abbrev rmX8_behind : Room := { frames := 8, cells := 0, slots := 0, locals := 188 }
set_option maxHeartbeats 4000000 in
set_option maxRecDepth 100000 in
theorem ctX8_behind {l : Launch} {g : GX} {N : Nat} {ln : Nat → Nat} {S : HC} {a0 : Nat} {a1 : Int32} {a2 : Int32} {post : Int32 → HC → Prop} (hr_a0 : a0 < N) (hk_a0 : kd a0 = 8) (h : wpX8_behind ln S a0 a1 a2 post) : Met l yX8_behind (Cond.code yX8_behind prog_10_method_47_code 4 (Option.some Jvm.ClassFile.FieldType.int) :: gtbl) rmX8_behind (va_Pc [.ref (gz g + a0), .int a1, .int a2] (AtP g N ln S)) (QI g N ln post) 0 0 (gF g) := by
  refine m_of (by decide) (Nat.le_of_ble_eq_true rfl) ?_
  intro p e s m below meth c ls F hr I hl
  have hl : lv_has ls 4 [(0, .ref (gz g + a0)), (1, .int a1), (2, .int a2)] := hl
  unfold wpX8_behind at h
  have hj_64 : ∀ (S : HC) (H : Heap) (locs : List Loc) (ls : Array Slot) (x0 : Nat) (t0 : Int32), x0 < N → kd x0 = 8 → BX8_behind_64 ln post S x0 t0 → Inv g N ln S s H locs → lv_has ls 4 [(0, .ref (gz g + x0))] → W p l e rmX8_behind s m ([.ref (gz g + a0), .int a1, .int a2] : List Value).toArray below meth c H locs 0 0 (MQ below (QI g N ln post) ([.ref (gz g + a0), .int a1, .int a2] : List Value).toArray s 0 0 (gF g)) (F0 m 64 ls [.int t0]) := by
    intro S H locs ls x0 t0 hr_x0 hk_x0 h I hl
    unfold BX8_behind_64 at h
    refine lv_istore_n (lv' := [(3, .int t0), (0, .ref (gz g + x0))]) F.1 F.2.1 dX8_behind_64 rfl hl (by decide) rfl (fun ls hl => ?_)
    refine lv_aload_n F.1 F.2.1 dX8_behind_65 rfl (lv_at hl 1 rfl) ?_
    refine g_V I (run_V (As := []) (rest := []) F I hr_x0 hk_x0 (by decide) kX8_179 (ctX8_putsBack hr_x0 hk_x0 h) ⟨rfl, rfl⟩ ⟨Nat.le_of_ble_eq_true rfl, Nat.le_of_ble_eq_true rfl⟩ rfl hl.1 rfl (Nat.le_of_ble_eq_true rfl) ⟨Nat.le_of_ble_eq_true rfl, Nat.le_of_ble_eq_true rfl⟩ dX8_behind_66) (fun S H locs I h => ?_)
    refine lv_iload_n F.1 F.2.1 dX8_behind_69 rfl (lv_at hl 0 rfl) ?_
    exact r_ireturn F I ⟨hr.1, hr.2.1, trivial⟩ h dX8_behind_70
  have hj_20 : ∀ (S : HC) (H : Heap) (locs : List Loc) (ls : Array Slot), BX8_behind_20 ln post S  → Inv g N ln S s H locs → lv_has ls 4 [] → W p l e rmX8_behind s m ([.ref (gz g + a0), .int a1, .int a2] : List Value).toArray below meth c H locs 0 0 (MQ below (QI g N ln post) ([.ref (gz g + a0), .int a1, .int a2] : List Value).toArray s 0 0 (gF g)) (F0 m 20 ls []) := by
    intro S H locs ls h I hl
    unfold BX8_behind_20 at h
    refine lv_ldc F.1 F.2.1 F.2.2.2.1 (F.2.2.2.2 _ tw_1064) dX8_behind_20 ?_
    exact r_ireturn F I ⟨hr.1, hr.2.1, trivial⟩ h dX8_behind_22
  refine lv_iload_n F.1 F.2.1 dX8_behind_0 rfl (lv_at hl 1 rfl) ?_
  refine lv_iconst (v := 0) F.1 F.2.1 dX8_behind_1 (by decide) ?_
  refine lv_bipush (v := 100) F.1 F.2.1 dX8_behind_2 (by decide) ?_
  refine g_I I (run_S (As := [.int a1, .int (0 : Int32), .int (100 : Int32)]) (rest := []) F I kX8_79 (ctX8_in h) ⟨rfl, rfl⟩ ⟨Nat.le_of_ble_eq_true rfl, Nat.le_of_ble_eq_true rfl⟩ rfl hl.1 rfl (Nat.le_of_ble_eq_true rfl) ⟨Nat.le_of_ble_eq_true rfl, Nat.le_of_ble_eq_true rfl⟩ dX8_behind_4) (fun z1 S H locs I h => ?_)
  refine r_if_eq (tgt := 20) F dX8_behind_7 (by decide) h (fun h => ?_) (fun h => ?_)
  · exact hj_20 S _ _ _   h I (lv_sub hl [] rfl)
  · refine lv_iload_n F.1 F.2.1 dX8_behind_10 rfl (lv_at hl 2 rfl) ?_
    refine lv_iconst (v := 0) F.1 F.2.1 dX8_behind_11 (by decide) ?_
    refine lv_bipush (v := 9) F.1 F.2.1 dX8_behind_12 (by decide) ?_
    refine g_I I (run_S (As := [.int a2, .int (0 : Int32), .int (9 : Int32)]) (rest := []) F I kX8_79 (ctX8_in h) ⟨rfl, rfl⟩ ⟨Nat.le_of_ble_eq_true rfl, Nat.le_of_ble_eq_true rfl⟩ rfl hl.1 rfl (Nat.le_of_ble_eq_true rfl) ⟨Nat.le_of_ble_eq_true rfl, Nat.le_of_ble_eq_true rfl⟩ dX8_behind_14) (fun z2 S H locs I h => ?_)
    refine r_if_ne (tgt := 23) F dX8_behind_17 (by decide) h (fun h => ?_) (fun h => ?_)
    · refine lv_aload_n F.1 F.2.1 dX8_behind_23 rfl (lv_at hl 0 rfl) ?_
      refine g_V I (run_V (As := []) (rest := []) F I hr_a0 hk_a0 (by decide) kX8_173 (ctX8_thinks hr_a0 hk_a0 h) ⟨rfl, rfl⟩ ⟨Nat.le_of_ble_eq_true rfl, Nat.le_of_ble_eq_true rfl⟩ rfl hl.1 rfl (Nat.le_of_ble_eq_true rfl) ⟨Nat.le_of_ble_eq_true rfl, Nat.le_of_ble_eq_true rfl⟩ dX8_behind_24) (fun S H locs I h => ?_)
      refine lv_aload_n F.1 F.2.1 dX8_behind_27 rfl (lv_at hl 0 rfl) ?_
      refine lv_iload_n F.1 F.2.1 dX8_behind_28 rfl (lv_at hl 1 rfl) ?_
      refine g_V I (run_V (As := [.int a1]) (rest := []) F I hr_a0 hk_a0 (by decide) kX8_158 (ctX8_goesOn hr_a0 hk_a0 h) ⟨rfl, rfl⟩ ⟨Nat.le_of_ble_eq_true rfl, Nat.le_of_ble_eq_true rfl⟩ rfl hl.1 rfl (Nat.le_of_ble_eq_true rfl) ⟨Nat.le_of_ble_eq_true rfl, Nat.le_of_ble_eq_true rfl⟩ dX8_behind_29) (fun S H locs I h => ?_)
      refine lv_iload_n F.1 F.2.1 dX8_behind_32 rfl (lv_at hl 2 rfl) ?_
      refine r_if_ne (tgt := 45) F dX8_behind_33 (by decide) h (fun h => ?_) (fun h => ?_)
      · refine lv_iload_n F.1 F.2.1 dX8_behind_45 rfl (lv_at hl 2 rfl) ?_
        refine lv_iconst (v := 1) F.1 F.2.1 dX8_behind_46 (by decide) ?_
        refine r_icmp_ne (tgt := 57) F dX8_behind_47 (by decide) h (fun h => ?_) (fun h => ?_)
        · refine lv_aload_n F.1 F.2.1 dX8_behind_57 rfl (lv_at hl 0 rfl) ?_
          refine lv_iload_n F.1 F.2.1 dX8_behind_58 rfl (lv_at hl 2 rfl) ?_
          refine lv_iconst (v := 2) F.1 F.2.1 dX8_behind_59 (by decide) ?_
          refine r_isub F dX8_behind_60 h (fun z3 h => ?_)
          refine g_I I (run_V (As := [.int z3]) (rest := []) F I hr_a0 hk_a0 (by decide) kX8_176 (ctX8_allBear hr_a0 hk_a0 h) ⟨rfl, rfl⟩ ⟨Nat.le_of_ble_eq_true rfl, Nat.le_of_ble_eq_true rfl⟩ rfl hl.1 rfl (Nat.le_of_ble_eq_true rfl) ⟨Nat.le_of_ble_eq_true rfl, Nat.le_of_ble_eq_true rfl⟩ dX8_behind_61) (fun z4 S H locs I h => ?_)
          exact hj_64 S _ _ _ a0 z4 hr_a0 hk_a0 h I (lv_sub hl [0] rfl)
        · refine lv_aload_n F.1 F.2.1 dX8_behind_50 rfl (lv_at hl 0 rfl) ?_
          refine g_I I (run_V (As := []) (rest := []) F I hr_a0 hk_a0 (by decide) kX8_167 (ctX8_clashes hr_a0 hk_a0 h) ⟨rfl, rfl⟩ ⟨Nat.le_of_ble_eq_true rfl, Nat.le_of_ble_eq_true rfl⟩ rfl hl.1 rfl (Nat.le_of_ble_eq_true rfl) ⟨Nat.le_of_ble_eq_true rfl, Nat.le_of_ble_eq_true rfl⟩ dX8_behind_51) (fun z5 S H locs I h => ?_)
          refine lv_goto (tgt := 64) F.1 F.2.1 dX8_behind_54 (by decide) ?_
          exact hj_64 S _ _ _ a0 z5 hr_a0 hk_a0 h I (lv_sub hl [0] rfl)
      · refine lv_aload_n F.1 F.2.1 dX8_behind_36 rfl (lv_at hl 0 rfl) ?_
        refine r_getN F I hr_a0 hk_a0 fX8_9 (f := 9) rfl (by decide) dX8_behind_37 h (fun b6 hr_b6 hk_b6 h => ?_)
        refine lv_iconst (v := 1) F.1 F.2.1 dX8_behind_40 (by decide) ?_
        refine r_ald F I hr_b6 hk_b6 dX8_behind_41 h (fun z7 h => ?_)
        refine lv_goto (tgt := 64) F.1 F.2.1 dX8_behind_42 (by decide) ?_
        exact hj_64 S _ _ _ a0 z7 hr_a0 hk_a0 h I (lv_sub hl [0] rfl)
    · exact hj_20 S _ _ _   h I (lv_sub hl [] rfl)
theorem bdX8_born_0 : ∀ q ∈ ([(0, .aload_n 0, 1), (1, .invokevirtual 173, 3), (4, .aload_n 0, 1), (5, .getfield 9, 3), (8, .iconst 1, 1), (9, .iaload, 1), (10, .istore_n 1, 1), (11, .iconst 0, 1), (12, .istore_n 2, 1), (13, .iload_n 2, 1), (14, .sipush 200, 3), (17, .if_icmp .ge 23, 3), (20, .aload_n 0, 1), (21, .getfield 9, 3), (24, .iconst 1, 1), (25, .iaload, 1), (26, .iload_n 1, 1), (27, .if_icmp .ne 13, 3), (30, .aload_n 0, 1), (31, .invokevirtual 155, 3), (34, .iinc 2 1, 3), (37, .goto (-24), 3), (40, .aload_n 0, 1), (41, .getfield 9, 3), (44, .iconst 1, 1), (45, .iaload, 1), (46, .iload_n 1, 1), (47, .if_icmp .ne 8, 3), (50, .ldc 78, 2), (52, .goto 4, 3), (55, .iload_n 2, 1), (56, .istore_n 3, 1), (57, .aload_n 0, 1), (58, .invokevirtual 179, 3), (61, .iload_n 3, 1), (62, .ireturn, 1)] : List (Nat × Jvm.ClassFile.Instr × Nat)), decode cX8_born q.1 = .ok q.2 := chk_ok _ 0 _ rfl (by decide +kernel)
theorem dX8_born_0 : decode cX8_born 0 = .ok (.aload_n 0, 1) := bdX8_born_0 (0, .aload_n 0, 1) (List.mem_of_getElem? (i := 0) rfl)
theorem dX8_born_1 : decode cX8_born 1 = .ok (.invokevirtual 173, 3) := bdX8_born_0 (1, .invokevirtual 173, 3) (List.mem_of_getElem? (i := 1) rfl)
theorem dX8_born_4 : decode cX8_born 4 = .ok (.aload_n 0, 1) := bdX8_born_0 (4, .aload_n 0, 1) (List.mem_of_getElem? (i := 2) rfl)
theorem dX8_born_5 : decode cX8_born 5 = .ok (.getfield 9, 3) := bdX8_born_0 (5, .getfield 9, 3) (List.mem_of_getElem? (i := 3) rfl)
theorem dX8_born_8 : decode cX8_born 8 = .ok (.iconst 1, 1) := bdX8_born_0 (8, .iconst 1, 1) (List.mem_of_getElem? (i := 4) rfl)
theorem dX8_born_9 : decode cX8_born 9 = .ok (.iaload, 1) := bdX8_born_0 (9, .iaload, 1) (List.mem_of_getElem? (i := 5) rfl)
theorem dX8_born_10 : decode cX8_born 10 = .ok (.istore_n 1, 1) := bdX8_born_0 (10, .istore_n 1, 1) (List.mem_of_getElem? (i := 6) rfl)
theorem dX8_born_11 : decode cX8_born 11 = .ok (.iconst 0, 1) := bdX8_born_0 (11, .iconst 0, 1) (List.mem_of_getElem? (i := 7) rfl)
theorem dX8_born_12 : decode cX8_born 12 = .ok (.istore_n 2, 1) := bdX8_born_0 (12, .istore_n 2, 1) (List.mem_of_getElem? (i := 8) rfl)
theorem dX8_born_13 : decode cX8_born 13 = .ok (.iload_n 2, 1) := bdX8_born_0 (13, .iload_n 2, 1) (List.mem_of_getElem? (i := 9) rfl)
theorem dX8_born_14 : decode cX8_born 14 = .ok (.sipush 200, 3) := bdX8_born_0 (14, .sipush 200, 3) (List.mem_of_getElem? (i := 10) rfl)
theorem dX8_born_17 : decode cX8_born 17 = .ok (.if_icmp .ge 23, 3) := bdX8_born_0 (17, .if_icmp .ge 23, 3) (List.mem_of_getElem? (i := 11) rfl)
theorem dX8_born_20 : decode cX8_born 20 = .ok (.aload_n 0, 1) := bdX8_born_0 (20, .aload_n 0, 1) (List.mem_of_getElem? (i := 12) rfl)
theorem dX8_born_21 : decode cX8_born 21 = .ok (.getfield 9, 3) := bdX8_born_0 (21, .getfield 9, 3) (List.mem_of_getElem? (i := 13) rfl)
theorem dX8_born_24 : decode cX8_born 24 = .ok (.iconst 1, 1) := bdX8_born_0 (24, .iconst 1, 1) (List.mem_of_getElem? (i := 14) rfl)
theorem dX8_born_25 : decode cX8_born 25 = .ok (.iaload, 1) := bdX8_born_0 (25, .iaload, 1) (List.mem_of_getElem? (i := 15) rfl)
theorem dX8_born_26 : decode cX8_born 26 = .ok (.iload_n 1, 1) := bdX8_born_0 (26, .iload_n 1, 1) (List.mem_of_getElem? (i := 16) rfl)
theorem dX8_born_27 : decode cX8_born 27 = .ok (.if_icmp .ne 13, 3) := bdX8_born_0 (27, .if_icmp .ne 13, 3) (List.mem_of_getElem? (i := 17) rfl)
theorem dX8_born_30 : decode cX8_born 30 = .ok (.aload_n 0, 1) := bdX8_born_0 (30, .aload_n 0, 1) (List.mem_of_getElem? (i := 18) rfl)
theorem dX8_born_31 : decode cX8_born 31 = .ok (.invokevirtual 155, 3) := bdX8_born_0 (31, .invokevirtual 155, 3) (List.mem_of_getElem? (i := 19) rfl)
theorem dX8_born_34 : decode cX8_born 34 = .ok (.iinc 2 1, 3) := bdX8_born_0 (34, .iinc 2 1, 3) (List.mem_of_getElem? (i := 20) rfl)
theorem dX8_born_37 : decode cX8_born 37 = .ok (.goto (-24), 3) := bdX8_born_0 (37, .goto (-24), 3) (List.mem_of_getElem? (i := 21) rfl)
theorem dX8_born_40 : decode cX8_born 40 = .ok (.aload_n 0, 1) := bdX8_born_0 (40, .aload_n 0, 1) (List.mem_of_getElem? (i := 22) rfl)
theorem dX8_born_41 : decode cX8_born 41 = .ok (.getfield 9, 3) := bdX8_born_0 (41, .getfield 9, 3) (List.mem_of_getElem? (i := 23) rfl)
theorem dX8_born_44 : decode cX8_born 44 = .ok (.iconst 1, 1) := bdX8_born_0 (44, .iconst 1, 1) (List.mem_of_getElem? (i := 24) rfl)
theorem dX8_born_45 : decode cX8_born 45 = .ok (.iaload, 1) := bdX8_born_0 (45, .iaload, 1) (List.mem_of_getElem? (i := 25) rfl)
theorem dX8_born_46 : decode cX8_born 46 = .ok (.iload_n 1, 1) := bdX8_born_0 (46, .iload_n 1, 1) (List.mem_of_getElem? (i := 26) rfl)
theorem dX8_born_47 : decode cX8_born 47 = .ok (.if_icmp .ne 8, 3) := bdX8_born_0 (47, .if_icmp .ne 8, 3) (List.mem_of_getElem? (i := 27) rfl)
theorem dX8_born_50 : decode cX8_born 50 = .ok (.ldc 78, 2) := bdX8_born_0 (50, .ldc 78, 2) (List.mem_of_getElem? (i := 28) rfl)
theorem dX8_born_52 : decode cX8_born 52 = .ok (.goto 4, 3) := bdX8_born_0 (52, .goto 4, 3) (List.mem_of_getElem? (i := 29) rfl)
theorem dX8_born_55 : decode cX8_born 55 = .ok (.iload_n 2, 1) := bdX8_born_0 (55, .iload_n 2, 1) (List.mem_of_getElem? (i := 30) rfl)
theorem dX8_born_56 : decode cX8_born 56 = .ok (.istore_n 3, 1) := bdX8_born_0 (56, .istore_n 3, 1) (List.mem_of_getElem? (i := 31) rfl)
theorem dX8_born_57 : decode cX8_born 57 = .ok (.aload_n 0, 1) := bdX8_born_0 (57, .aload_n 0, 1) (List.mem_of_getElem? (i := 32) rfl)
theorem dX8_born_58 : decode cX8_born 58 = .ok (.invokevirtual 179, 3) := bdX8_born_0 (58, .invokevirtual 179, 3) (List.mem_of_getElem? (i := 33) rfl)
theorem dX8_born_61 : decode cX8_born 61 = .ok (.iload_n 3, 1) := bdX8_born_0 (61, .iload_n 3, 1) (List.mem_of_getElem? (i := 34) rfl)
theorem dX8_born_62 : decode cX8_born 62 = .ok (.ireturn, 1) := bdX8_born_0 (62, .ireturn, 1) (List.mem_of_getElem? (i := 35) rfl)
def BX8_born_56 (ln : Nat → Nat) (post : Int32 → HC → Prop) (S : HC) (x0 : Nat) (t0 : Int32) : Prop := wpX8_putsBack ln S x0 fun S => post t0 S
def BX8_born_40 (ln : Nat → Nat) (post : Int32 → HC → Prop) (S : HC) (x0 : Nat) (x1 : Int32) (x2 : Int32) : Prop := dn_ (hR S x0 0) fun b1 => al_ (ln b1) (1 : Int32) (hI S b1) fun z2 => if z2 = x1 then (BX8_born_56 ln post S x0 (-1000000005 : Int32)) else (BX8_born_56 ln post S x0 x2)
def LX8_born_13 (ln : Nat → Nat) (post : Int32 → HC → Prop) : Nat → HC → Nat → Int32 → Int32 → Prop
  | 0 => fun _ _ _ _ => False
  | n13 + 1 => fun S x0 x1 x2 => if (200 : Int32) ≤ x2 then (BX8_born_40 ln post S x0 x1 x2) else (dn_ (hR S x0 0) fun b3 => al_ (ln b3) (1 : Int32) (hI S b3) fun z4 => if z4 = x1 then (wpX8_year ln S x0 fun S => lt_ (x2 + (1 : Int32)) fun z5 => (LX8_born_13 ln post n13) S x0 x1 z5) else (BX8_born_40 ln post S x0 x1 x2))
def wpX8_born (ln : Nat → Nat) (S : HC) (a0 : Nat) (post : Int32 → HC → Prop) : Prop := wpX8_thinks ln S a0 fun S => dn_ (hR S a0 0) fun b6 => al_ (ln b6) (1 : Int32) (hI S b6) fun z7 => ∃ n13, LX8_born_13 ln post n13 S a0 z7 (0 : Int32)
abbrev rmX8_born : Room := { frames := 3, cells := 0, slots := 0, locals := 74 }
set_option maxHeartbeats 4000000 in
set_option maxRecDepth 100000 in
theorem ctX8_born {l : Launch} {g : GX} {N : Nat} {ln : Nat → Nat} {S : HC} {a0 : Nat} {post : Int32 → HC → Prop} (hr_a0 : a0 < N) (hk_a0 : kd a0 = 8) (h : wpX8_born ln S a0 post) : Met l yX8_born (Cond.code yX8_born prog_10_method_48_code 4 (Option.some Jvm.ClassFile.FieldType.int) :: gtbl) rmX8_born (va_Pc [.ref (gz g + a0)] (AtP g N ln S)) (QI g N ln post) 0 0 (gF g) := by
  refine m_of (by decide) (Nat.le_of_ble_eq_true rfl) ?_
  intro p e s m below meth c ls F hr I hl
  have hl : lv_has ls 4 [(0, .ref (gz g + a0))] := hl
  unfold wpX8_born at h
  have hj_56 : ∀ (S : HC) (H : Heap) (locs : List Loc) (ls : Array Slot) (x0 : Nat) (t0 : Int32), x0 < N → kd x0 = 8 → BX8_born_56 ln post S x0 t0 → Inv g N ln S s H locs → lv_has ls 4 [(0, .ref (gz g + x0))] → W p l e rmX8_born s m ([.ref (gz g + a0)] : List Value).toArray below meth c H locs 0 0 (MQ below (QI g N ln post) ([.ref (gz g + a0)] : List Value).toArray s 0 0 (gF g)) (F0 m 56 ls [.int t0]) := by
    intro S H locs ls x0 t0 hr_x0 hk_x0 h I hl
    unfold BX8_born_56 at h
    refine lv_istore_n (lv' := [(3, .int t0), (0, .ref (gz g + x0))]) F.1 F.2.1 dX8_born_56 rfl hl (by decide) rfl (fun ls hl => ?_)
    refine lv_aload_n F.1 F.2.1 dX8_born_57 rfl (lv_at hl 1 rfl) ?_
    refine g_V I (run_V (As := []) (rest := []) F I hr_x0 hk_x0 (by decide) kX8_179 (ctX8_putsBack hr_x0 hk_x0 h) ⟨rfl, rfl⟩ ⟨Nat.le_of_ble_eq_true rfl, Nat.le_of_ble_eq_true rfl⟩ rfl hl.1 rfl (Nat.le_of_ble_eq_true rfl) ⟨Nat.le_of_ble_eq_true rfl, Nat.le_of_ble_eq_true rfl⟩ dX8_born_58) (fun S H locs I h => ?_)
    refine lv_iload_n F.1 F.2.1 dX8_born_61 rfl (lv_at hl 0 rfl) ?_
    exact r_ireturn F I ⟨hr.1, hr.2.1, trivial⟩ h dX8_born_62
  have hj_40 : ∀ (S : HC) (H : Heap) (locs : List Loc) (ls : Array Slot) (x0 : Nat) (x1 : Int32) (x2 : Int32), x0 < N → kd x0 = 8 → BX8_born_40 ln post S x0 x1 x2 → Inv g N ln S s H locs → lv_has ls 4 [(0, .ref (gz g + x0)), (1, .int x1), (2, .int x2)] → W p l e rmX8_born s m ([.ref (gz g + a0)] : List Value).toArray below meth c H locs 0 0 (MQ below (QI g N ln post) ([.ref (gz g + a0)] : List Value).toArray s 0 0 (gF g)) (F0 m 40 ls []) := by
    intro S H locs ls x0 x1 x2 hr_x0 hk_x0 h I hl
    unfold BX8_born_40 at h
    refine lv_aload_n F.1 F.2.1 dX8_born_40 rfl (lv_at hl 0 rfl) ?_
    refine r_getN F I hr_x0 hk_x0 fX8_9 (f := 9) rfl (by decide) dX8_born_41 h (fun b1 hr_b1 hk_b1 h => ?_)
    refine lv_iconst (v := 1) F.1 F.2.1 dX8_born_44 (by decide) ?_
    refine r_ald F I hr_b1 hk_b1 dX8_born_45 h (fun z2 h => ?_)
    refine lv_iload_n F.1 F.2.1 dX8_born_46 rfl (lv_at hl 1 rfl) ?_
    refine r_icmp_ne (tgt := 55) F dX8_born_47 (by decide) h (fun h => ?_) (fun h => ?_)
    · refine lv_iload_n F.1 F.2.1 dX8_born_55 rfl (lv_at hl 2 rfl) ?_
      exact hj_56 S _ _ _ x0 x2 hr_x0 hk_x0 h I (lv_sub hl [0] rfl)
    · refine lv_ldc F.1 F.2.1 F.2.2.2.1 (F.2.2.2.2 _ tw_1208) dX8_born_50 ?_
      refine lv_goto (tgt := 56) F.1 F.2.1 dX8_born_52 (by decide) ?_
      exact hj_56 S _ _ _ x0 (-1000000005 : Int32) hr_x0 hk_x0 h I (lv_sub hl [0] rfl)
  have hl_13 : ∀ n13 : Nat, ∀ (S : HC) (H : Heap) (locs : List Loc) (ls : Array Slot) (x0 : Nat) (x1 : Int32) (x2 : Int32), x0 < N → kd x0 = 8 → LX8_born_13 ln post n13 S x0 x1 x2 → Inv g N ln S s H locs → lv_has ls 4 [(0, .ref (gz g + x0)), (1, .int x1), (2, .int x2)] → W p l e rmX8_born s m ([.ref (gz g + a0)] : List Value).toArray below meth c H locs 0 0 (MQ below (QI g N ln post) ([.ref (gz g + a0)] : List Value).toArray s 0 0 (gF g)) (F0 m 13 ls []) := by
    intro n13
    induction n13 with
    | zero =>
      intro S H locs ls x0 x1 x2 hr_x0 hk_x0 h I hl
      exact h.elim
    | succ n13 ih =>
      have hk13 := ih
      intro S H locs ls x0 x1 x2 hr_x0 hk_x0 h I hl
      rw [LX8_born_13] at h
      refine lv_iload_n F.1 F.2.1 dX8_born_13 rfl (lv_at hl 2 rfl) ?_
      refine lv_sipush (v := 200) F.1 F.2.1 dX8_born_14 (by decide) ?_
      refine r_icmp_ge (tgt := 40) F dX8_born_17 (by decide) h (fun h => ?_) (fun h => ?_)
      · exact hj_40 S _ _ _ x0 x1 x2 hr_x0 hk_x0 h I (lv_sub hl [0, 1, 2] rfl)
      · refine lv_aload_n F.1 F.2.1 dX8_born_20 rfl (lv_at hl 0 rfl) ?_
        refine r_getN F I hr_x0 hk_x0 fX8_9 (f := 9) rfl (by decide) dX8_born_21 h (fun b3 hr_b3 hk_b3 h => ?_)
        refine lv_iconst (v := 1) F.1 F.2.1 dX8_born_24 (by decide) ?_
        refine r_ald F I hr_b3 hk_b3 dX8_born_25 h (fun z4 h => ?_)
        refine lv_iload_n F.1 F.2.1 dX8_born_26 rfl (lv_at hl 1 rfl) ?_
        refine r_icmp_ne (tgt := 40) F dX8_born_27 (by decide) h (fun h => ?_) (fun h => ?_)
        · exact hj_40 S _ _ _ x0 x1 x2 hr_x0 hk_x0 h I (lv_sub hl [0, 1, 2] rfl)
        · refine lv_aload_n F.1 F.2.1 dX8_born_30 rfl (lv_at hl 0 rfl) ?_
          refine g_V I (run_V (As := []) (rest := []) F I hr_x0 hk_x0 (by decide) kX8_155 (ctX8_year hr_x0 hk_x0 h) ⟨rfl, rfl⟩ ⟨Nat.le_of_ble_eq_true rfl, Nat.le_of_ble_eq_true rfl⟩ rfl hl.1 rfl (Nat.le_of_ble_eq_true rfl) ⟨Nat.le_of_ble_eq_true rfl, Nat.le_of_ble_eq_true rfl⟩ dX8_born_31) (fun S H locs I h => ?_)
          obtain ⟨z5, e_z5, h⟩ := lt_x h
          refine lv_iinc (v := z5) (lv' := [(2, .int z5), (0, .ref (gz g + x0)), (1, .int x1)]) F.1 F.2.1 dX8_born_34 hl (k := 2) rfl (by rw [e_z5]; rfl) (by decide) rfl (fun ls hl => ?_)
          refine lv_goto (tgt := 13) F.1 F.2.1 dX8_born_37 (by decide) ?_
          exact hk13 S _ _ _ x0 x1 z5 hr_x0 hk_x0 h I (lv_sub hl [1, 2, 0] rfl)
  refine lv_aload_n F.1 F.2.1 dX8_born_0 rfl (lv_at hl 0 rfl) ?_
  refine g_V I (run_V (As := []) (rest := []) F I hr_a0 hk_a0 (by decide) kX8_173 (ctX8_thinks hr_a0 hk_a0 h) ⟨rfl, rfl⟩ ⟨Nat.le_of_ble_eq_true rfl, Nat.le_of_ble_eq_true rfl⟩ rfl hl.1 rfl (Nat.le_of_ble_eq_true rfl) ⟨Nat.le_of_ble_eq_true rfl, Nat.le_of_ble_eq_true rfl⟩ dX8_born_1) (fun S H locs I h => ?_)
  refine lv_aload_n F.1 F.2.1 dX8_born_4 rfl (lv_at hl 0 rfl) ?_
  refine r_getN F I hr_a0 hk_a0 fX8_9 (f := 9) rfl (by decide) dX8_born_5 h (fun b6 hr_b6 hk_b6 h => ?_)
  refine lv_iconst (v := 1) F.1 F.2.1 dX8_born_8 (by decide) ?_
  refine r_ald F I hr_b6 hk_b6 dX8_born_9 h (fun z7 h => ?_)
  refine lv_istore_n (lv' := [(1, .int z7), (0, .ref (gz g + a0))]) F.1 F.2.1 dX8_born_10 rfl hl (by decide) rfl (fun ls hl => ?_)
  refine lv_iconst (v := 0) F.1 F.2.1 dX8_born_11 (by decide) ?_
  refine lv_istore_n (lv' := [(2, .int (0 : Int32)), (1, .int z7), (0, .ref (gz g + a0))]) F.1 F.2.1 dX8_born_12 rfl hl (by decide) rfl (fun ls hl => ?_)
  obtain ⟨n13, h⟩ := h
  exact hl_13 n13 S _ _ _ a0 z7 (0 : Int32) hr_a0 hk_a0 h I (lv_sub hl [2, 1, 0] rfl)
theorem bdX8_gone_0 : ∀ q ∈ ([(0, .iload_n 1, 1), (1, .iconst 0, 1), (2, .bipush 60, 2), (4, .invokestatic 79, 3), (7, .ifCond .eq 12, 3), (10, .iload_n 2, 1), (11, .iconst 0, 1), (12, .iconst 1, 1), (13, .invokestatic 79, 3), (16, .ifCond .ne 6, 3), (19, .ldc 98, 2), (21, .ireturn, 1), (22, .aload_n 0, 1), (23, .invokevirtual 173, 3), (26, .aload_n 0, 1), (27, .iload_n 1, 1), (28, .invokevirtual 158, 3), (31, .aload_n 0, 1), (32, .invokevirtual 161, 3), (35, .iconst 0, 1), (36, .istore_n 3, 1), (37, .bipush 15, 2), (39, .istore 4, 2), (41, .iconst 0, 1), (42, .istore 5, 2), (44, .iload 5, 2), (46, .bipush 8, 2), (48, .if_icmp .ge 83, 3), (51, .iconst 0, 1), (52, .istore 6, 2), (54, .iconst 0, 1), (55, .istore 7, 2), (57, .iload 7, 2), (59, .aload_n 0, 1), (60, .getfield 9, 3), (63, .iconst 1, 1), (64, .iaload, 1), (65, .if_icmp .ge 30, 3), (68, .iload 6, 2), (70, .aload_n 0, 1)] : List (Nat × Jvm.ClassFile.Instr × Nat)), decode cX8_gone q.1 = .ok q.2 := chk_ok _ 0 _ rfl (by decide +kernel)
theorem dX8_gone_0 : decode cX8_gone 0 = .ok (.iload_n 1, 1) := bdX8_gone_0 (0, .iload_n 1, 1) (List.mem_of_getElem? (i := 0) rfl)
theorem dX8_gone_1 : decode cX8_gone 1 = .ok (.iconst 0, 1) := bdX8_gone_0 (1, .iconst 0, 1) (List.mem_of_getElem? (i := 1) rfl)
theorem dX8_gone_2 : decode cX8_gone 2 = .ok (.bipush 60, 2) := bdX8_gone_0 (2, .bipush 60, 2) (List.mem_of_getElem? (i := 2) rfl)
theorem dX8_gone_4 : decode cX8_gone 4 = .ok (.invokestatic 79, 3) := bdX8_gone_0 (4, .invokestatic 79, 3) (List.mem_of_getElem? (i := 3) rfl)
theorem dX8_gone_7 : decode cX8_gone 7 = .ok (.ifCond .eq 12, 3) := bdX8_gone_0 (7, .ifCond .eq 12, 3) (List.mem_of_getElem? (i := 4) rfl)
theorem dX8_gone_10 : decode cX8_gone 10 = .ok (.iload_n 2, 1) := bdX8_gone_0 (10, .iload_n 2, 1) (List.mem_of_getElem? (i := 5) rfl)
theorem dX8_gone_11 : decode cX8_gone 11 = .ok (.iconst 0, 1) := bdX8_gone_0 (11, .iconst 0, 1) (List.mem_of_getElem? (i := 6) rfl)
theorem dX8_gone_12 : decode cX8_gone 12 = .ok (.iconst 1, 1) := bdX8_gone_0 (12, .iconst 1, 1) (List.mem_of_getElem? (i := 7) rfl)
theorem dX8_gone_13 : decode cX8_gone 13 = .ok (.invokestatic 79, 3) := bdX8_gone_0 (13, .invokestatic 79, 3) (List.mem_of_getElem? (i := 8) rfl)
theorem dX8_gone_16 : decode cX8_gone 16 = .ok (.ifCond .ne 6, 3) := bdX8_gone_0 (16, .ifCond .ne 6, 3) (List.mem_of_getElem? (i := 9) rfl)
theorem dX8_gone_19 : decode cX8_gone 19 = .ok (.ldc 98, 2) := bdX8_gone_0 (19, .ldc 98, 2) (List.mem_of_getElem? (i := 10) rfl)
theorem dX8_gone_21 : decode cX8_gone 21 = .ok (.ireturn, 1) := bdX8_gone_0 (21, .ireturn, 1) (List.mem_of_getElem? (i := 11) rfl)
theorem dX8_gone_22 : decode cX8_gone 22 = .ok (.aload_n 0, 1) := bdX8_gone_0 (22, .aload_n 0, 1) (List.mem_of_getElem? (i := 12) rfl)
theorem dX8_gone_23 : decode cX8_gone 23 = .ok (.invokevirtual 173, 3) := bdX8_gone_0 (23, .invokevirtual 173, 3) (List.mem_of_getElem? (i := 13) rfl)
theorem dX8_gone_26 : decode cX8_gone 26 = .ok (.aload_n 0, 1) := bdX8_gone_0 (26, .aload_n 0, 1) (List.mem_of_getElem? (i := 14) rfl)
theorem dX8_gone_27 : decode cX8_gone 27 = .ok (.iload_n 1, 1) := bdX8_gone_0 (27, .iload_n 1, 1) (List.mem_of_getElem? (i := 15) rfl)
theorem dX8_gone_28 : decode cX8_gone 28 = .ok (.invokevirtual 158, 3) := bdX8_gone_0 (28, .invokevirtual 158, 3) (List.mem_of_getElem? (i := 16) rfl)
theorem dX8_gone_31 : decode cX8_gone 31 = .ok (.aload_n 0, 1) := bdX8_gone_0 (31, .aload_n 0, 1) (List.mem_of_getElem? (i := 17) rfl)
theorem dX8_gone_32 : decode cX8_gone 32 = .ok (.invokevirtual 161, 3) := bdX8_gone_0 (32, .invokevirtual 161, 3) (List.mem_of_getElem? (i := 18) rfl)
theorem dX8_gone_35 : decode cX8_gone 35 = .ok (.iconst 0, 1) := bdX8_gone_0 (35, .iconst 0, 1) (List.mem_of_getElem? (i := 19) rfl)
theorem dX8_gone_36 : decode cX8_gone 36 = .ok (.istore_n 3, 1) := bdX8_gone_0 (36, .istore_n 3, 1) (List.mem_of_getElem? (i := 20) rfl)
theorem dX8_gone_37 : decode cX8_gone 37 = .ok (.bipush 15, 2) := bdX8_gone_0 (37, .bipush 15, 2) (List.mem_of_getElem? (i := 21) rfl)
theorem dX8_gone_39 : decode cX8_gone 39 = .ok (.istore 4, 2) := bdX8_gone_0 (39, .istore 4, 2) (List.mem_of_getElem? (i := 22) rfl)
theorem dX8_gone_41 : decode cX8_gone 41 = .ok (.iconst 0, 1) := bdX8_gone_0 (41, .iconst 0, 1) (List.mem_of_getElem? (i := 23) rfl)
theorem dX8_gone_42 : decode cX8_gone 42 = .ok (.istore 5, 2) := bdX8_gone_0 (42, .istore 5, 2) (List.mem_of_getElem? (i := 24) rfl)
theorem dX8_gone_44 : decode cX8_gone 44 = .ok (.iload 5, 2) := bdX8_gone_0 (44, .iload 5, 2) (List.mem_of_getElem? (i := 25) rfl)
theorem dX8_gone_46 : decode cX8_gone 46 = .ok (.bipush 8, 2) := bdX8_gone_0 (46, .bipush 8, 2) (List.mem_of_getElem? (i := 26) rfl)
theorem dX8_gone_48 : decode cX8_gone 48 = .ok (.if_icmp .ge 83, 3) := bdX8_gone_0 (48, .if_icmp .ge 83, 3) (List.mem_of_getElem? (i := 27) rfl)
theorem dX8_gone_51 : decode cX8_gone 51 = .ok (.iconst 0, 1) := bdX8_gone_0 (51, .iconst 0, 1) (List.mem_of_getElem? (i := 28) rfl)
theorem dX8_gone_52 : decode cX8_gone 52 = .ok (.istore 6, 2) := bdX8_gone_0 (52, .istore 6, 2) (List.mem_of_getElem? (i := 29) rfl)
theorem dX8_gone_54 : decode cX8_gone 54 = .ok (.iconst 0, 1) := bdX8_gone_0 (54, .iconst 0, 1) (List.mem_of_getElem? (i := 30) rfl)
theorem dX8_gone_55 : decode cX8_gone 55 = .ok (.istore 7, 2) := bdX8_gone_0 (55, .istore 7, 2) (List.mem_of_getElem? (i := 31) rfl)
theorem dX8_gone_57 : decode cX8_gone 57 = .ok (.iload 7, 2) := bdX8_gone_0 (57, .iload 7, 2) (List.mem_of_getElem? (i := 32) rfl)
theorem dX8_gone_59 : decode cX8_gone 59 = .ok (.aload_n 0, 1) := bdX8_gone_0 (59, .aload_n 0, 1) (List.mem_of_getElem? (i := 33) rfl)
theorem dX8_gone_60 : decode cX8_gone 60 = .ok (.getfield 9, 3) := bdX8_gone_0 (60, .getfield 9, 3) (List.mem_of_getElem? (i := 34) rfl)
theorem dX8_gone_63 : decode cX8_gone 63 = .ok (.iconst 1, 1) := bdX8_gone_0 (63, .iconst 1, 1) (List.mem_of_getElem? (i := 35) rfl)
theorem dX8_gone_64 : decode cX8_gone 64 = .ok (.iaload, 1) := bdX8_gone_0 (64, .iaload, 1) (List.mem_of_getElem? (i := 36) rfl)
theorem dX8_gone_65 : decode cX8_gone 65 = .ok (.if_icmp .ge 30, 3) := bdX8_gone_0 (65, .if_icmp .ge 30, 3) (List.mem_of_getElem? (i := 37) rfl)
theorem dX8_gone_68 : decode cX8_gone 68 = .ok (.iload 6, 2) := bdX8_gone_0 (68, .iload 6, 2) (List.mem_of_getElem? (i := 38) rfl)
theorem dX8_gone_70 : decode cX8_gone 70 = .ok (.aload_n 0, 1) := bdX8_gone_0 (70, .aload_n 0, 1) (List.mem_of_getElem? (i := 39) rfl)
theorem bdX8_gone_71 : ∀ q ∈ ([(71, .iload 7, 2), (73, .iload 5, 2), (75, .invokevirtual 134, 3), (78, .ifCond .le 7, 3), (81, .iconst 1, 1), (82, .goto 4, 3), (85, .iconst 0, 1), (86, .iadd, 1), (87, .istore 6, 2), (89, .iinc 7 1, 3), (92, .goto (-35), 3), (95, .iload 6, 2), (97, .iload 4, 2), (99, .if_icmp .ge 8, 3), (102, .iload 5, 2), (104, .goto 4, 3), (107, .iload_n 3, 1), (108, .istore_n 3, 1), (109, .iload 6, 2), (111, .iload 4, 2), (113, .if_icmp .ge 8, 3), (116, .iload 6, 2), (118, .goto 5, 3), (121, .iload 4, 2), (123, .istore 4, 2), (125, .iinc 5 1, 3), (128, .goto (-84), 3), (131, .aload_n 0, 1), (132, .invokevirtual 179, 3), (135, .iload_n 2, 1), (136, .ifCond .ne 7, 3), (139, .iload_n 3, 1), (140, .goto 5, 3), (143, .iload 4, 2), (145, .ireturn, 1)] : List (Nat × Jvm.ClassFile.Instr × Nat)), decode cX8_gone q.1 = .ok q.2 := chk_ok _ 71 _ rfl (by decide +kernel)
theorem dX8_gone_71 : decode cX8_gone 71 = .ok (.iload 7, 2) := bdX8_gone_71 (71, .iload 7, 2) (List.mem_of_getElem? (i := 0) rfl)
theorem dX8_gone_73 : decode cX8_gone 73 = .ok (.iload 5, 2) := bdX8_gone_71 (73, .iload 5, 2) (List.mem_of_getElem? (i := 1) rfl)
theorem dX8_gone_75 : decode cX8_gone 75 = .ok (.invokevirtual 134, 3) := bdX8_gone_71 (75, .invokevirtual 134, 3) (List.mem_of_getElem? (i := 2) rfl)
theorem dX8_gone_78 : decode cX8_gone 78 = .ok (.ifCond .le 7, 3) := bdX8_gone_71 (78, .ifCond .le 7, 3) (List.mem_of_getElem? (i := 3) rfl)
theorem dX8_gone_81 : decode cX8_gone 81 = .ok (.iconst 1, 1) := bdX8_gone_71 (81, .iconst 1, 1) (List.mem_of_getElem? (i := 4) rfl)
theorem dX8_gone_82 : decode cX8_gone 82 = .ok (.goto 4, 3) := bdX8_gone_71 (82, .goto 4, 3) (List.mem_of_getElem? (i := 5) rfl)
theorem dX8_gone_85 : decode cX8_gone 85 = .ok (.iconst 0, 1) := bdX8_gone_71 (85, .iconst 0, 1) (List.mem_of_getElem? (i := 6) rfl)
theorem dX8_gone_86 : decode cX8_gone 86 = .ok (.iadd, 1) := bdX8_gone_71 (86, .iadd, 1) (List.mem_of_getElem? (i := 7) rfl)
theorem dX8_gone_87 : decode cX8_gone 87 = .ok (.istore 6, 2) := bdX8_gone_71 (87, .istore 6, 2) (List.mem_of_getElem? (i := 8) rfl)
theorem dX8_gone_89 : decode cX8_gone 89 = .ok (.iinc 7 1, 3) := bdX8_gone_71 (89, .iinc 7 1, 3) (List.mem_of_getElem? (i := 9) rfl)
theorem dX8_gone_92 : decode cX8_gone 92 = .ok (.goto (-35), 3) := bdX8_gone_71 (92, .goto (-35), 3) (List.mem_of_getElem? (i := 10) rfl)
theorem dX8_gone_95 : decode cX8_gone 95 = .ok (.iload 6, 2) := bdX8_gone_71 (95, .iload 6, 2) (List.mem_of_getElem? (i := 11) rfl)
theorem dX8_gone_97 : decode cX8_gone 97 = .ok (.iload 4, 2) := bdX8_gone_71 (97, .iload 4, 2) (List.mem_of_getElem? (i := 12) rfl)
theorem dX8_gone_99 : decode cX8_gone 99 = .ok (.if_icmp .ge 8, 3) := bdX8_gone_71 (99, .if_icmp .ge 8, 3) (List.mem_of_getElem? (i := 13) rfl)
theorem dX8_gone_102 : decode cX8_gone 102 = .ok (.iload 5, 2) := bdX8_gone_71 (102, .iload 5, 2) (List.mem_of_getElem? (i := 14) rfl)
theorem dX8_gone_104 : decode cX8_gone 104 = .ok (.goto 4, 3) := bdX8_gone_71 (104, .goto 4, 3) (List.mem_of_getElem? (i := 15) rfl)
theorem dX8_gone_107 : decode cX8_gone 107 = .ok (.iload_n 3, 1) := bdX8_gone_71 (107, .iload_n 3, 1) (List.mem_of_getElem? (i := 16) rfl)
theorem dX8_gone_108 : decode cX8_gone 108 = .ok (.istore_n 3, 1) := bdX8_gone_71 (108, .istore_n 3, 1) (List.mem_of_getElem? (i := 17) rfl)
theorem dX8_gone_109 : decode cX8_gone 109 = .ok (.iload 6, 2) := bdX8_gone_71 (109, .iload 6, 2) (List.mem_of_getElem? (i := 18) rfl)
theorem dX8_gone_111 : decode cX8_gone 111 = .ok (.iload 4, 2) := bdX8_gone_71 (111, .iload 4, 2) (List.mem_of_getElem? (i := 19) rfl)
theorem dX8_gone_113 : decode cX8_gone 113 = .ok (.if_icmp .ge 8, 3) := bdX8_gone_71 (113, .if_icmp .ge 8, 3) (List.mem_of_getElem? (i := 20) rfl)
theorem dX8_gone_116 : decode cX8_gone 116 = .ok (.iload 6, 2) := bdX8_gone_71 (116, .iload 6, 2) (List.mem_of_getElem? (i := 21) rfl)
theorem dX8_gone_118 : decode cX8_gone 118 = .ok (.goto 5, 3) := bdX8_gone_71 (118, .goto 5, 3) (List.mem_of_getElem? (i := 22) rfl)
theorem dX8_gone_121 : decode cX8_gone 121 = .ok (.iload 4, 2) := bdX8_gone_71 (121, .iload 4, 2) (List.mem_of_getElem? (i := 23) rfl)
theorem dX8_gone_123 : decode cX8_gone 123 = .ok (.istore 4, 2) := bdX8_gone_71 (123, .istore 4, 2) (List.mem_of_getElem? (i := 24) rfl)
theorem dX8_gone_125 : decode cX8_gone 125 = .ok (.iinc 5 1, 3) := bdX8_gone_71 (125, .iinc 5 1, 3) (List.mem_of_getElem? (i := 25) rfl)
theorem dX8_gone_128 : decode cX8_gone 128 = .ok (.goto (-84), 3) := bdX8_gone_71 (128, .goto (-84), 3) (List.mem_of_getElem? (i := 26) rfl)
theorem dX8_gone_131 : decode cX8_gone 131 = .ok (.aload_n 0, 1) := bdX8_gone_71 (131, .aload_n 0, 1) (List.mem_of_getElem? (i := 27) rfl)
theorem dX8_gone_132 : decode cX8_gone 132 = .ok (.invokevirtual 179, 3) := bdX8_gone_71 (132, .invokevirtual 179, 3) (List.mem_of_getElem? (i := 28) rfl)
theorem dX8_gone_135 : decode cX8_gone 135 = .ok (.iload_n 2, 1) := bdX8_gone_71 (135, .iload_n 2, 1) (List.mem_of_getElem? (i := 29) rfl)
theorem dX8_gone_136 : decode cX8_gone 136 = .ok (.ifCond .ne 7, 3) := bdX8_gone_71 (136, .ifCond .ne 7, 3) (List.mem_of_getElem? (i := 30) rfl)
theorem dX8_gone_139 : decode cX8_gone 139 = .ok (.iload_n 3, 1) := bdX8_gone_71 (139, .iload_n 3, 1) (List.mem_of_getElem? (i := 31) rfl)
theorem dX8_gone_140 : decode cX8_gone 140 = .ok (.goto 5, 3) := bdX8_gone_71 (140, .goto 5, 3) (List.mem_of_getElem? (i := 32) rfl)
theorem dX8_gone_143 : decode cX8_gone 143 = .ok (.iload 4, 2) := bdX8_gone_71 (143, .iload 4, 2) (List.mem_of_getElem? (i := 33) rfl)
theorem dX8_gone_145 : decode cX8_gone 145 = .ok (.ireturn, 1) := bdX8_gone_71 (145, .ireturn, 1) (List.mem_of_getElem? (i := 34) rfl)
def BX8_gone_123 (ln : Nat → Nat) (post : Int32 → HC → Prop) (K44 : HC → Nat → Int32 → Int32 → Int32 → Int32 → Prop) (S : HC) (x0 : Nat) (x2 : Int32) (x3 : Int32) (x5 : Int32) (t0 : Int32) : Prop := lt_ (x5 + (1 : Int32)) fun z1 => K44 S x0 x2 x3 t0 z1
def BX8_gone_108 (ln : Nat → Nat) (post : Int32 → HC → Prop) (K44 : HC → Nat → Int32 → Int32 → Int32 → Int32 → Prop) (S : HC) (x0 : Nat) (x2 : Int32) (x4 : Int32) (x5 : Int32) (x6 : Int32) (t0 : Int32) : Prop := if x4 ≤ x6 then (BX8_gone_123 ln post K44 S x0 x2 t0 x5 x4) else (BX8_gone_123 ln post K44 S x0 x2 t0 x5 x6)
def BX8_gone_86 (ln : Nat → Nat) (post : Int32 → HC → Prop) (K44 : HC → Nat → Int32 → Int32 → Int32 → Int32 → Prop) (K57 : HC → Nat → Int32 → Int32 → Int32 → Int32 → Int32 → Int32 → Prop) (S : HC) (x0 : Nat) (x2 : Int32) (x3 : Int32) (x4 : Int32) (x5 : Int32) (x7 : Int32) (t0 : Int32) (t1 : Int32) : Prop := lt_ (t0 + t1) fun z2 => lt_ (x7 + (1 : Int32)) fun z3 => K57 S x0 x2 x3 x4 x5 z2 z3
def LX8_gone_57 (ln : Nat → Nat) (post : Int32 → HC → Prop) (K44 : HC → Nat → Int32 → Int32 → Int32 → Int32 → Prop) : Nat → HC → Nat → Int32 → Int32 → Int32 → Int32 → Int32 → Int32 → Prop
  | 0 => fun _ _ _ _ _ _ _ _ => False
  | n57 + 1 => fun S x0 x2 x3 x4 x5 x6 x7 => dn_ (hR S x0 0) fun b4 => al_ (ln b4) (1 : Int32) (hI S b4) fun z5 => if z5 ≤ x7 then (if x4 ≤ x6 then (BX8_gone_108 ln post K44 S x0 x2 x4 x5 x6 x3) else (BX8_gone_108 ln post K44 S x0 x2 x4 x5 x6 x5)) else (wpX8_borne ln S x0 x7 x5 fun z6 S => if z6 ≤ 0 then (BX8_gone_86 ln post K44 (LX8_gone_57 ln post K44 n57) S x0 x2 x3 x4 x5 x7 x6 (0 : Int32)) else (BX8_gone_86 ln post K44 (LX8_gone_57 ln post K44 n57) S x0 x2 x3 x4 x5 x7 x6 (1 : Int32)))
def LX8_gone_44 (ln : Nat → Nat) (post : Int32 → HC → Prop) : Nat → HC → Nat → Int32 → Int32 → Int32 → Int32 → Prop
  | 0 => fun _ _ _ _ _ _ => False
  | n44 + 1 => fun S x0 x2 x3 x4 x5 => if (8 : Int32) ≤ x5 then (wpX8_putsBack ln S x0 fun S => if x2 = 0 then (post x3 S) else (post x4 S)) else (∃ n57, LX8_gone_57 ln post (LX8_gone_44 ln post n44) n57 S x0 x2 x3 x4 x5 (0 : Int32) (0 : Int32))
def BX8_gone_19 (ln : Nat → Nat) (post : Int32 → HC → Prop) (S : HC)  : Prop := post (-1000000001 : Int32) S
def wpX8_gone (ln : Nat → Nat) (S : HC) (a0 : Nat) (a1 : Int32) (a2 : Int32) (post : Int32 → HC → Prop) : Prop := wpX8_in ln S a1 (0 : Int32) (60 : Int32) fun z7 S => if z7 = 0 then (BX8_gone_19 ln post S) else (wpX8_in ln S a2 (0 : Int32) (1 : Int32) fun z8 S => if z8 = 0 then (BX8_gone_19 ln post S) else (wpX8_thinks ln S a0 fun S => wpX8_goesOn ln S a0 a1 fun S => wpX8_worksAll ln S a0 fun S => ∃ n44, LX8_gone_44 ln post n44 S a0 a2 (0 : Int32) (15 : Int32) (0 : Int32)))
abbrev rmX8_gone : Room := { frames := 7, cells := 0, slots := 0, locals := 165 }
set_option maxHeartbeats 4000000 in
set_option maxRecDepth 100000 in
theorem ctX8_gone {l : Launch} {g : GX} {N : Nat} {ln : Nat → Nat} {S : HC} {a0 : Nat} {a1 : Int32} {a2 : Int32} {post : Int32 → HC → Prop} (hr_a0 : a0 < N) (hk_a0 : kd a0 = 8) (h : wpX8_gone ln S a0 a1 a2 post) : Met l yX8_gone (Cond.code yX8_gone prog_10_method_49_code 8 (Option.some Jvm.ClassFile.FieldType.int) :: gtbl) rmX8_gone (va_Pc [.ref (gz g + a0), .int a1, .int a2] (AtP g N ln S)) (QI g N ln post) 0 0 (gF g) := by
  refine m_of (by decide) (Nat.le_of_ble_eq_true rfl) ?_
  intro p e s m below meth c ls F hr I hl
  have hl : lv_has ls 8 [(0, .ref (gz g + a0)), (1, .int a1), (2, .int a2)] := hl
  unfold wpX8_gone at h
  have hl_44 : ∀ n44 : Nat, ∀ (S : HC) (H : Heap) (locs : List Loc) (ls : Array Slot) (x0 : Nat) (x2 : Int32) (x3 : Int32) (x4 : Int32) (x5 : Int32), x0 < N → kd x0 = 8 → LX8_gone_44 ln post n44 S x0 x2 x3 x4 x5 → Inv g N ln S s H locs → lv_has ls 8 [(0, .ref (gz g + x0)), (2, .int x2), (3, .int x3), (4, .int x4), (5, .int x5)] → W p l e rmX8_gone s m ([.ref (gz g + a0), .int a1, .int a2] : List Value).toArray below meth c H locs 0 0 (MQ below (QI g N ln post) ([.ref (gz g + a0), .int a1, .int a2] : List Value).toArray s 0 0 (gF g)) (F0 m 44 ls []) := by
    intro n44
    induction n44 with
    | zero =>
      intro S H locs ls x0 x2 x3 x4 x5 hr_x0 hk_x0 h I hl
      exact h.elim
    | succ n44 ih =>
      have hk44 := ih
      have hj_123 : ∀ (S : HC) (H : Heap) (locs : List Loc) (ls : Array Slot) (x0 : Nat) (x2 : Int32) (x3 : Int32) (x5 : Int32) (t0 : Int32), x0 < N → kd x0 = 8 → BX8_gone_123 ln post (LX8_gone_44 ln post n44) S x0 x2 x3 x5 t0 → Inv g N ln S s H locs → lv_has ls 8 [(0, .ref (gz g + x0)), (2, .int x2), (3, .int x3), (5, .int x5)] → W p l e rmX8_gone s m ([.ref (gz g + a0), .int a1, .int a2] : List Value).toArray below meth c H locs 0 0 (MQ below (QI g N ln post) ([.ref (gz g + a0), .int a1, .int a2] : List Value).toArray s 0 0 (gF g)) (F0 m 123 ls [.int t0]) := by
        intro S H locs ls x0 x2 x3 x5 t0 hr_x0 hk_x0 h I hl
        unfold BX8_gone_123 at h
        refine lv_istore (lv' := [(4, .int t0), (0, .ref (gz g + x0)), (2, .int x2), (3, .int x3), (5, .int x5)]) F.1 F.2.1 dX8_gone_123 hl (by decide) rfl (fun ls hl => ?_)
        obtain ⟨z1, e_z1, h⟩ := lt_x h
        refine lv_iinc (v := z1) (lv' := [(5, .int z1), (4, .int t0), (0, .ref (gz g + x0)), (2, .int x2), (3, .int x3)]) F.1 F.2.1 dX8_gone_125 hl (k := 4) rfl (by rw [e_z1]; rfl) (by decide) rfl (fun ls hl => ?_)
        refine lv_goto (tgt := 44) F.1 F.2.1 dX8_gone_128 (by decide) ?_
        exact hk44 S _ _ _ x0 x2 x3 t0 z1 hr_x0 hk_x0 h I (lv_sub hl [2, 3, 4, 1, 0] rfl)
      have hj_108 : ∀ (S : HC) (H : Heap) (locs : List Loc) (ls : Array Slot) (x0 : Nat) (x2 : Int32) (x4 : Int32) (x5 : Int32) (x6 : Int32) (t0 : Int32), x0 < N → kd x0 = 8 → BX8_gone_108 ln post (LX8_gone_44 ln post n44) S x0 x2 x4 x5 x6 t0 → Inv g N ln S s H locs → lv_has ls 8 [(0, .ref (gz g + x0)), (2, .int x2), (4, .int x4), (5, .int x5), (6, .int x6)] → W p l e rmX8_gone s m ([.ref (gz g + a0), .int a1, .int a2] : List Value).toArray below meth c H locs 0 0 (MQ below (QI g N ln post) ([.ref (gz g + a0), .int a1, .int a2] : List Value).toArray s 0 0 (gF g)) (F0 m 108 ls [.int t0]) := by
        intro S H locs ls x0 x2 x4 x5 x6 t0 hr_x0 hk_x0 h I hl
        unfold BX8_gone_108 at h
        refine lv_istore_n (lv' := [(3, .int t0), (0, .ref (gz g + x0)), (2, .int x2), (4, .int x4), (5, .int x5), (6, .int x6)]) F.1 F.2.1 dX8_gone_108 rfl hl (by decide) rfl (fun ls hl => ?_)
        refine lv_iload F.1 F.2.1 dX8_gone_109 (lv_at hl 5 rfl) ?_
        refine lv_iload F.1 F.2.1 dX8_gone_111 (lv_at hl 3 rfl) ?_
        refine r_icmp_ge (tgt := 121) F dX8_gone_113 (by decide) h (fun h => ?_) (fun h => ?_)
        · refine lv_iload F.1 F.2.1 dX8_gone_121 (lv_at hl 3 rfl) ?_
          exact hj_123 S _ _ _ x0 x2 t0 x5 x4 hr_x0 hk_x0 h I (lv_sub hl [1, 2, 0, 4] rfl)
        · refine lv_iload F.1 F.2.1 dX8_gone_116 (lv_at hl 5 rfl) ?_
          refine lv_goto (tgt := 123) F.1 F.2.1 dX8_gone_118 (by decide) ?_
          exact hj_123 S _ _ _ x0 x2 t0 x5 x6 hr_x0 hk_x0 h I (lv_sub hl [1, 2, 0, 4] rfl)
      have hl_57 : ∀ n57 : Nat, ∀ (S : HC) (H : Heap) (locs : List Loc) (ls : Array Slot) (x0 : Nat) (x2 : Int32) (x3 : Int32) (x4 : Int32) (x5 : Int32) (x6 : Int32) (x7 : Int32), x0 < N → kd x0 = 8 → LX8_gone_57 ln post (LX8_gone_44 ln post n44) n57 S x0 x2 x3 x4 x5 x6 x7 → Inv g N ln S s H locs → lv_has ls 8 [(0, .ref (gz g + x0)), (2, .int x2), (3, .int x3), (4, .int x4), (5, .int x5), (6, .int x6), (7, .int x7)] → W p l e rmX8_gone s m ([.ref (gz g + a0), .int a1, .int a2] : List Value).toArray below meth c H locs 0 0 (MQ below (QI g N ln post) ([.ref (gz g + a0), .int a1, .int a2] : List Value).toArray s 0 0 (gF g)) (F0 m 57 ls []) := by
        intro n57
        induction n57 with
        | zero =>
          intro S H locs ls x0 x2 x3 x4 x5 x6 x7 hr_x0 hk_x0 h I hl
          exact h.elim
        | succ n57 ih =>
          have hk57 := ih
          have hj_86 : ∀ (S : HC) (H : Heap) (locs : List Loc) (ls : Array Slot) (x0 : Nat) (x2 : Int32) (x3 : Int32) (x4 : Int32) (x5 : Int32) (x7 : Int32) (t0 : Int32) (t1 : Int32), x0 < N → kd x0 = 8 → BX8_gone_86 ln post (LX8_gone_44 ln post n44) (LX8_gone_57 ln post (LX8_gone_44 ln post n44) n57) S x0 x2 x3 x4 x5 x7 t0 t1 → Inv g N ln S s H locs → lv_has ls 8 [(0, .ref (gz g + x0)), (2, .int x2), (3, .int x3), (4, .int x4), (5, .int x5), (7, .int x7)] → W p l e rmX8_gone s m ([.ref (gz g + a0), .int a1, .int a2] : List Value).toArray below meth c H locs 0 0 (MQ below (QI g N ln post) ([.ref (gz g + a0), .int a1, .int a2] : List Value).toArray s 0 0 (gF g)) (F0 m 86 ls [.int t1, .int t0]) := by
            intro S H locs ls x0 x2 x3 x4 x5 x7 t0 t1 hr_x0 hk_x0 h I hl
            unfold BX8_gone_86 at h
            refine r_iadd F dX8_gone_86 h (fun z2 h => ?_)
            refine lv_istore (lv' := [(6, .int z2), (0, .ref (gz g + x0)), (2, .int x2), (3, .int x3), (4, .int x4), (5, .int x5), (7, .int x7)]) F.1 F.2.1 dX8_gone_87 hl (by decide) rfl (fun ls hl => ?_)
            obtain ⟨z3, e_z3, h⟩ := lt_x h
            refine lv_iinc (v := z3) (lv' := [(7, .int z3), (6, .int z2), (0, .ref (gz g + x0)), (2, .int x2), (3, .int x3), (4, .int x4), (5, .int x5)]) F.1 F.2.1 dX8_gone_89 hl (k := 6) rfl (by rw [e_z3]; rfl) (by decide) rfl (fun ls hl => ?_)
            refine lv_goto (tgt := 57) F.1 F.2.1 dX8_gone_92 (by decide) ?_
            exact hk57 S _ _ _ x0 x2 x3 x4 x5 z2 z3 hr_x0 hk_x0 h I (lv_sub hl [2, 3, 4, 5, 6, 1, 0] rfl)
          intro S H locs ls x0 x2 x3 x4 x5 x6 x7 hr_x0 hk_x0 h I hl
          rw [LX8_gone_57] at h
          refine lv_iload F.1 F.2.1 dX8_gone_57 (lv_at hl 6 rfl) ?_
          refine lv_aload_n F.1 F.2.1 dX8_gone_59 rfl (lv_at hl 0 rfl) ?_
          refine r_getN F I hr_x0 hk_x0 fX8_9 (f := 9) rfl (by decide) dX8_gone_60 h (fun b4 hr_b4 hk_b4 h => ?_)
          refine lv_iconst (v := 1) F.1 F.2.1 dX8_gone_63 (by decide) ?_
          refine r_ald F I hr_b4 hk_b4 dX8_gone_64 h (fun z5 h => ?_)
          refine r_icmp_ge (tgt := 95) F dX8_gone_65 (by decide) h (fun h => ?_) (fun h => ?_)
          · refine lv_iload F.1 F.2.1 dX8_gone_95 (lv_at hl 5 rfl) ?_
            refine lv_iload F.1 F.2.1 dX8_gone_97 (lv_at hl 3 rfl) ?_
            refine r_icmp_ge (tgt := 107) F dX8_gone_99 (by decide) h (fun h => ?_) (fun h => ?_)
            · refine lv_iload_n F.1 F.2.1 dX8_gone_107 rfl (lv_at hl 2 rfl) ?_
              exact hj_108 S _ _ _ x0 x2 x4 x5 x6 x3 hr_x0 hk_x0 h I (lv_sub hl [0, 1, 3, 4, 5] rfl)
            · refine lv_iload F.1 F.2.1 dX8_gone_102 (lv_at hl 4 rfl) ?_
              refine lv_goto (tgt := 108) F.1 F.2.1 dX8_gone_104 (by decide) ?_
              exact hj_108 S _ _ _ x0 x2 x4 x5 x6 x5 hr_x0 hk_x0 h I (lv_sub hl [0, 1, 3, 4, 5] rfl)
          · refine lv_iload F.1 F.2.1 dX8_gone_68 (lv_at hl 5 rfl) ?_
            refine lv_aload_n F.1 F.2.1 dX8_gone_70 rfl (lv_at hl 0 rfl) ?_
            refine lv_iload F.1 F.2.1 dX8_gone_71 (lv_at hl 6 rfl) ?_
            refine lv_iload F.1 F.2.1 dX8_gone_73 (lv_at hl 4 rfl) ?_
            refine g_I I (run_V (As := [.int x7, .int x5]) (rest := [.int x6]) F I hr_x0 hk_x0 (by decide) kX8_134 (ctX8_borne hr_x0 hk_x0 h) ⟨rfl, rfl⟩ ⟨Nat.le_of_ble_eq_true rfl, Nat.le_of_ble_eq_true rfl⟩ rfl hl.1 rfl (Nat.le_of_ble_eq_true rfl) ⟨Nat.le_of_ble_eq_true rfl, Nat.le_of_ble_eq_true rfl⟩ dX8_gone_75) (fun z6 S H locs I h => ?_)
            refine r_if_le (tgt := 85) F dX8_gone_78 (by decide) h (fun h => ?_) (fun h => ?_)
            · refine lv_iconst (v := 0) F.1 F.2.1 dX8_gone_85 (by decide) ?_
              exact hj_86 S _ _ _ x0 x2 x3 x4 x5 x7 x6 (0 : Int32) hr_x0 hk_x0 h I (lv_sub hl [0, 1, 2, 3, 4, 6] rfl)
            · refine lv_iconst (v := 1) F.1 F.2.1 dX8_gone_81 (by decide) ?_
              refine lv_goto (tgt := 86) F.1 F.2.1 dX8_gone_82 (by decide) ?_
              exact hj_86 S _ _ _ x0 x2 x3 x4 x5 x7 x6 (1 : Int32) hr_x0 hk_x0 h I (lv_sub hl [0, 1, 2, 3, 4, 6] rfl)
      intro S H locs ls x0 x2 x3 x4 x5 hr_x0 hk_x0 h I hl
      rw [LX8_gone_44] at h
      refine lv_iload F.1 F.2.1 dX8_gone_44 (lv_at hl 4 rfl) ?_
      refine lv_bipush (v := 8) F.1 F.2.1 dX8_gone_46 (by decide) ?_
      refine r_icmp_ge (tgt := 131) F dX8_gone_48 (by decide) h (fun h => ?_) (fun h => ?_)
      · refine lv_aload_n F.1 F.2.1 dX8_gone_131 rfl (lv_at hl 0 rfl) ?_
        refine g_V I (run_V (As := []) (rest := []) F I hr_x0 hk_x0 (by decide) kX8_179 (ctX8_putsBack hr_x0 hk_x0 h) ⟨rfl, rfl⟩ ⟨Nat.le_of_ble_eq_true rfl, Nat.le_of_ble_eq_true rfl⟩ rfl hl.1 rfl (Nat.le_of_ble_eq_true rfl) ⟨Nat.le_of_ble_eq_true rfl, Nat.le_of_ble_eq_true rfl⟩ dX8_gone_132) (fun S H locs I h => ?_)
        refine lv_iload_n F.1 F.2.1 dX8_gone_135 rfl (lv_at hl 1 rfl) ?_
        refine r_if_ne (tgt := 143) F dX8_gone_136 (by decide) h (fun h => ?_) (fun h => ?_)
        · refine lv_iload F.1 F.2.1 dX8_gone_143 (lv_at hl 3 rfl) ?_
          exact r_ireturn F I ⟨hr.1, hr.2.1, trivial⟩ h dX8_gone_145
        · refine lv_iload_n F.1 F.2.1 dX8_gone_139 rfl (lv_at hl 2 rfl) ?_
          refine lv_goto (tgt := 145) F.1 F.2.1 dX8_gone_140 (by decide) ?_
          exact r_ireturn F I ⟨hr.1, hr.2.1, trivial⟩ h dX8_gone_145
      · refine lv_iconst (v := 0) F.1 F.2.1 dX8_gone_51 (by decide) ?_
        refine lv_istore (lv' := [(6, .int (0 : Int32)), (0, .ref (gz g + x0)), (2, .int x2), (3, .int x3), (4, .int x4), (5, .int x5)]) F.1 F.2.1 dX8_gone_52 hl (by decide) rfl (fun ls hl => ?_)
        refine lv_iconst (v := 0) F.1 F.2.1 dX8_gone_54 (by decide) ?_
        refine lv_istore (lv' := [(7, .int (0 : Int32)), (6, .int (0 : Int32)), (0, .ref (gz g + x0)), (2, .int x2), (3, .int x3), (4, .int x4), (5, .int x5)]) F.1 F.2.1 dX8_gone_55 hl (by decide) rfl (fun ls hl => ?_)
        obtain ⟨n57, h⟩ := h
        exact hl_57 n57 S _ _ _ x0 x2 x3 x4 x5 (0 : Int32) (0 : Int32) hr_x0 hk_x0 h I (lv_sub hl [2, 3, 4, 5, 6, 1, 0] rfl)
  have hj_19 : ∀ (S : HC) (H : Heap) (locs : List Loc) (ls : Array Slot), BX8_gone_19 ln post S  → Inv g N ln S s H locs → lv_has ls 8 [] → W p l e rmX8_gone s m ([.ref (gz g + a0), .int a1, .int a2] : List Value).toArray below meth c H locs 0 0 (MQ below (QI g N ln post) ([.ref (gz g + a0), .int a1, .int a2] : List Value).toArray s 0 0 (gF g)) (F0 m 19 ls []) := by
    intro S H locs ls h I hl
    unfold BX8_gone_19 at h
    refine lv_ldc F.1 F.2.1 F.2.2.2.1 (F.2.2.2.2 _ tw_1064) dX8_gone_19 ?_
    exact r_ireturn F I ⟨hr.1, hr.2.1, trivial⟩ h dX8_gone_21
  refine lv_iload_n F.1 F.2.1 dX8_gone_0 rfl (lv_at hl 1 rfl) ?_
  refine lv_iconst (v := 0) F.1 F.2.1 dX8_gone_1 (by decide) ?_
  refine lv_bipush (v := 60) F.1 F.2.1 dX8_gone_2 (by decide) ?_
  refine g_I I (run_S (As := [.int a1, .int (0 : Int32), .int (60 : Int32)]) (rest := []) F I kX8_79 (ctX8_in h) ⟨rfl, rfl⟩ ⟨Nat.le_of_ble_eq_true rfl, Nat.le_of_ble_eq_true rfl⟩ rfl hl.1 rfl (Nat.le_of_ble_eq_true rfl) ⟨Nat.le_of_ble_eq_true rfl, Nat.le_of_ble_eq_true rfl⟩ dX8_gone_4) (fun z7 S H locs I h => ?_)
  refine r_if_eq (tgt := 19) F dX8_gone_7 (by decide) h (fun h => ?_) (fun h => ?_)
  · exact hj_19 S _ _ _   h I (lv_sub hl [] rfl)
  · refine lv_iload_n F.1 F.2.1 dX8_gone_10 rfl (lv_at hl 2 rfl) ?_
    refine lv_iconst (v := 0) F.1 F.2.1 dX8_gone_11 (by decide) ?_
    refine lv_iconst (v := 1) F.1 F.2.1 dX8_gone_12 (by decide) ?_
    refine g_I I (run_S (As := [.int a2, .int (0 : Int32), .int (1 : Int32)]) (rest := []) F I kX8_79 (ctX8_in h) ⟨rfl, rfl⟩ ⟨Nat.le_of_ble_eq_true rfl, Nat.le_of_ble_eq_true rfl⟩ rfl hl.1 rfl (Nat.le_of_ble_eq_true rfl) ⟨Nat.le_of_ble_eq_true rfl, Nat.le_of_ble_eq_true rfl⟩ dX8_gone_13) (fun z8 S H locs I h => ?_)
    refine r_if_ne (tgt := 22) F dX8_gone_16 (by decide) h (fun h => ?_) (fun h => ?_)
    · refine lv_aload_n F.1 F.2.1 dX8_gone_22 rfl (lv_at hl 0 rfl) ?_
      refine g_V I (run_V (As := []) (rest := []) F I hr_a0 hk_a0 (by decide) kX8_173 (ctX8_thinks hr_a0 hk_a0 h) ⟨rfl, rfl⟩ ⟨Nat.le_of_ble_eq_true rfl, Nat.le_of_ble_eq_true rfl⟩ rfl hl.1 rfl (Nat.le_of_ble_eq_true rfl) ⟨Nat.le_of_ble_eq_true rfl, Nat.le_of_ble_eq_true rfl⟩ dX8_gone_23) (fun S H locs I h => ?_)
      refine lv_aload_n F.1 F.2.1 dX8_gone_26 rfl (lv_at hl 0 rfl) ?_
      refine lv_iload_n F.1 F.2.1 dX8_gone_27 rfl (lv_at hl 1 rfl) ?_
      refine g_V I (run_V (As := [.int a1]) (rest := []) F I hr_a0 hk_a0 (by decide) kX8_158 (ctX8_goesOn hr_a0 hk_a0 h) ⟨rfl, rfl⟩ ⟨Nat.le_of_ble_eq_true rfl, Nat.le_of_ble_eq_true rfl⟩ rfl hl.1 rfl (Nat.le_of_ble_eq_true rfl) ⟨Nat.le_of_ble_eq_true rfl, Nat.le_of_ble_eq_true rfl⟩ dX8_gone_28) (fun S H locs I h => ?_)
      refine lv_aload_n F.1 F.2.1 dX8_gone_31 rfl (lv_at hl 0 rfl) ?_
      refine g_V I (run_V (As := []) (rest := []) F I hr_a0 hk_a0 (by decide) kX8_161 (ctX8_worksAll hr_a0 hk_a0 h) ⟨rfl, rfl⟩ ⟨Nat.le_of_ble_eq_true rfl, Nat.le_of_ble_eq_true rfl⟩ rfl hl.1 rfl (Nat.le_of_ble_eq_true rfl) ⟨Nat.le_of_ble_eq_true rfl, Nat.le_of_ble_eq_true rfl⟩ dX8_gone_32) (fun S H locs I h => ?_)
      refine lv_iconst (v := 0) F.1 F.2.1 dX8_gone_35 (by decide) ?_
      refine lv_istore_n (lv' := [(3, .int (0 : Int32)), (0, .ref (gz g + a0)), (1, .int a1), (2, .int a2)]) F.1 F.2.1 dX8_gone_36 rfl hl (by decide) rfl (fun ls hl => ?_)
      refine lv_bipush (v := 15) F.1 F.2.1 dX8_gone_37 (by decide) ?_
      refine lv_istore (lv' := [(4, .int (15 : Int32)), (3, .int (0 : Int32)), (0, .ref (gz g + a0)), (1, .int a1), (2, .int a2)]) F.1 F.2.1 dX8_gone_39 hl (by decide) rfl (fun ls hl => ?_)
      refine lv_iconst (v := 0) F.1 F.2.1 dX8_gone_41 (by decide) ?_
      refine lv_istore (lv' := [(5, .int (0 : Int32)), (4, .int (15 : Int32)), (3, .int (0 : Int32)), (0, .ref (gz g + a0)), (1, .int a1), (2, .int a2)]) F.1 F.2.1 dX8_gone_42 hl (by decide) rfl (fun ls hl => ?_)
      obtain ⟨n44, h⟩ := h
      exact hl_44 n44 S _ _ _ a0 a2 (0 : Int32) (15 : Int32) (0 : Int32) hr_a0 hk_a0 h I (lv_sub hl [3, 5, 2, 1, 0] rfl)
    · exact hj_19 S _ _ _   h I (lv_sub hl [] rfl)
theorem bdX8_isSheet_0 : ∀ q ∈ ([(0, .iload_n 0, 1), (1, .iconst 0, 1), (2, .iconst 3, 1), (3, .invokestatic 79, 3), (6, .ireturn, 1)] : List (Nat × Jvm.ClassFile.Instr × Nat)), decode cX8_isSheet q.1 = .ok q.2 := chk_ok _ 0 _ rfl (by decide +kernel)
theorem dX8_isSheet_0 : decode cX8_isSheet 0 = .ok (.iload_n 0, 1) := bdX8_isSheet_0 (0, .iload_n 0, 1) (List.mem_of_getElem? (i := 0) rfl)
theorem dX8_isSheet_1 : decode cX8_isSheet 1 = .ok (.iconst 0, 1) := bdX8_isSheet_0 (1, .iconst 0, 1) (List.mem_of_getElem? (i := 1) rfl)
theorem dX8_isSheet_2 : decode cX8_isSheet 2 = .ok (.iconst 3, 1) := bdX8_isSheet_0 (2, .iconst 3, 1) (List.mem_of_getElem? (i := 2) rfl)
theorem dX8_isSheet_3 : decode cX8_isSheet 3 = .ok (.invokestatic 79, 3) := bdX8_isSheet_0 (3, .invokestatic 79, 3) (List.mem_of_getElem? (i := 3) rfl)
theorem dX8_isSheet_6 : decode cX8_isSheet 6 = .ok (.ireturn, 1) := bdX8_isSheet_0 (6, .ireturn, 1) (List.mem_of_getElem? (i := 4) rfl)
def wpX8_isSheet (ln : Nat → Nat) (S : HC) (a0 : Int32) (post : Int32 → HC → Prop) : Prop := wpX8_in ln S a0 (0 : Int32) (3 : Int32) fun z1 S => rb_ .boolean z1 (post z1 S)
abbrev rmX8_isSheet : Room := { frames := 1, cells := 0, slots := 0, locals := 22 }
set_option maxHeartbeats 4000000 in
set_option maxRecDepth 100000 in
theorem ctX8_isSheet {l : Launch} {g : GX} {N : Nat} {ln : Nat → Nat} {S : HC} {a0 : Int32} {post : Int32 → HC → Prop} (h : wpX8_isSheet ln S a0 post) : Met l yX8_isSheet (Cond.code yX8_isSheet prog_10_method_73_code 1 (Option.some Jvm.ClassFile.FieldType.boolean) :: gtbl) rmX8_isSheet (va_Pc [.int a0] (AtP g N ln S)) (QI g N ln post) 0 0 (gF g) := by
  refine m_of (by decide) (Nat.le_of_ble_eq_true rfl) ?_
  intro p e s m below meth c ls F hr I hl
  have hl : lv_has ls 1 [(0, .int a0)] := hl
  unfold wpX8_isSheet at h
  refine lv_iload_n F.1 F.2.1 dX8_isSheet_0 rfl (lv_at hl 0 rfl) ?_
  refine lv_iconst (v := 0) F.1 F.2.1 dX8_isSheet_1 (by decide) ?_
  refine lv_iconst (v := 3) F.1 F.2.1 dX8_isSheet_2 (by decide) ?_
  refine g_I I (run_S (As := [.int a0, .int (0 : Int32), .int (3 : Int32)]) (rest := []) F I kX8_79 (ctX8_in h) ⟨rfl, rfl⟩ ⟨Nat.le_of_ble_eq_true rfl, Nat.le_of_ble_eq_true rfl⟩ rfl hl.1 rfl (Nat.le_of_ble_eq_true rfl) ⟨Nat.le_of_ble_eq_true rfl, Nat.le_of_ble_eq_true rfl⟩ dX8_isSheet_3) (fun z1 S H locs I h => ?_)
  exact r_zreturn F I ⟨hr.1, hr.2.1, trivial⟩ h dX8_isSheet_6
theorem bdX8_isSlot_0 : ∀ q ∈ ([(0, .iload_n 0, 1), (1, .iconst 0, 1), (2, .iconst 4, 1), (3, .invokestatic 79, 3), (6, .ireturn, 1)] : List (Nat × Jvm.ClassFile.Instr × Nat)), decode cX8_isSlot q.1 = .ok q.2 := chk_ok _ 0 _ rfl (by decide +kernel)
theorem dX8_isSlot_0 : decode cX8_isSlot 0 = .ok (.iload_n 0, 1) := bdX8_isSlot_0 (0, .iload_n 0, 1) (List.mem_of_getElem? (i := 0) rfl)
theorem dX8_isSlot_1 : decode cX8_isSlot 1 = .ok (.iconst 0, 1) := bdX8_isSlot_0 (1, .iconst 0, 1) (List.mem_of_getElem? (i := 1) rfl)
theorem dX8_isSlot_2 : decode cX8_isSlot 2 = .ok (.iconst 4, 1) := bdX8_isSlot_0 (2, .iconst 4, 1) (List.mem_of_getElem? (i := 2) rfl)
theorem dX8_isSlot_3 : decode cX8_isSlot 3 = .ok (.invokestatic 79, 3) := bdX8_isSlot_0 (3, .invokestatic 79, 3) (List.mem_of_getElem? (i := 3) rfl)
theorem dX8_isSlot_6 : decode cX8_isSlot 6 = .ok (.ireturn, 1) := bdX8_isSlot_0 (6, .ireturn, 1) (List.mem_of_getElem? (i := 4) rfl)
def wpX8_isSlot (ln : Nat → Nat) (S : HC) (a0 : Int32) (post : Int32 → HC → Prop) : Prop := wpX8_in ln S a0 (0 : Int32) (4 : Int32) fun z1 S => rb_ .boolean z1 (post z1 S)
abbrev rmX8_isSlot : Room := { frames := 1, cells := 0, slots := 0, locals := 22 }
set_option maxHeartbeats 4000000 in
set_option maxRecDepth 100000 in
theorem ctX8_isSlot {l : Launch} {g : GX} {N : Nat} {ln : Nat → Nat} {S : HC} {a0 : Int32} {post : Int32 → HC → Prop} (h : wpX8_isSlot ln S a0 post) : Met l yX8_isSlot (Cond.code yX8_isSlot prog_10_method_74_code 1 (Option.some Jvm.ClassFile.FieldType.boolean) :: gtbl) rmX8_isSlot (va_Pc [.int a0] (AtP g N ln S)) (QI g N ln post) 0 0 (gF g) := by
  refine m_of (by decide) (Nat.le_of_ble_eq_true rfl) ?_
  intro p e s m below meth c ls F hr I hl
  have hl : lv_has ls 1 [(0, .int a0)] := hl
  unfold wpX8_isSlot at h
  refine lv_iload_n F.1 F.2.1 dX8_isSlot_0 rfl (lv_at hl 0 rfl) ?_
  refine lv_iconst (v := 0) F.1 F.2.1 dX8_isSlot_1 (by decide) ?_
  refine lv_iconst (v := 4) F.1 F.2.1 dX8_isSlot_2 (by decide) ?_
  refine g_I I (run_S (As := [.int a0, .int (0 : Int32), .int (4 : Int32)]) (rest := []) F I kX8_79 (ctX8_in h) ⟨rfl, rfl⟩ ⟨Nat.le_of_ble_eq_true rfl, Nat.le_of_ble_eq_true rfl⟩ rfl hl.1 rfl (Nat.le_of_ble_eq_true rfl) ⟨Nat.le_of_ble_eq_true rfl, Nat.le_of_ble_eq_true rfl⟩ dX8_isSlot_3) (fun z1 S H locs I h => ?_)
  exact r_zreturn F I ⟨hr.1, hr.2.1, trivial⟩ h dX8_isSlot_6
theorem bdX8_offBy_2 : ∀ q ∈ ([(2, .iconst 0, 1), (3, .istore 5, 2), (5, .iload 5, 2), (7, .aload_n 0, 1), (8, .getfield 54, 3), (11, .iload_n 1, 1), (12, .iaload, 1), (13, .if_icmp .ge 77, 3), (16, .aload_n 0, 1), (17, .getfield 57, 3), (20, .bipush 24, 2), (22, .iload_n 1, 1), (23, .imul, 1), (24, .iload 5, 2), (26, .iadd, 1), (27, .iaload, 1), (28, .istore 6, 2), (30, .iload 6, 2), (33, .iload 5, 2), (35, .bipush 8, 2), (37, .if_icmp .ge 13, 3), (40, .aload_n 0, 1), (41, .iload_n 2, 1), (42, .iload 5, 2), (44, .invokevirtual 134, 3), (47, .goto 4, 3), (50, .iconst 0, 1), (56, .iload 6, 2), (58, .ldc 78, 2), (60, .if_icmp .ne 7, 3), (64, .goto 18, 3), (71, .ifCond .ge 9, 3), (77, .goto 5, 3), (84, .iinc 5 1, 3), (87, .goto (-82), 3)] : List (Nat × Jvm.ClassFile.Instr × Nat)), decode cX8_offBy q.1 = .ok q.2 := chk_ok _ 2 _ rfl (by decide +kernel)
theorem dX8_offBy_2 : decode cX8_offBy 2 = .ok (.iconst 0, 1) := bdX8_offBy_2 (2, .iconst 0, 1) (List.mem_of_getElem? (i := 0) rfl)
theorem dX8_offBy_3 : decode cX8_offBy 3 = .ok (.istore 5, 2) := bdX8_offBy_2 (3, .istore 5, 2) (List.mem_of_getElem? (i := 1) rfl)
theorem dX8_offBy_5 : decode cX8_offBy 5 = .ok (.iload 5, 2) := bdX8_offBy_2 (5, .iload 5, 2) (List.mem_of_getElem? (i := 2) rfl)
theorem dX8_offBy_7 : decode cX8_offBy 7 = .ok (.aload_n 0, 1) := bdX8_offBy_2 (7, .aload_n 0, 1) (List.mem_of_getElem? (i := 3) rfl)
theorem dX8_offBy_8 : decode cX8_offBy 8 = .ok (.getfield 54, 3) := bdX8_offBy_2 (8, .getfield 54, 3) (List.mem_of_getElem? (i := 4) rfl)
theorem dX8_offBy_11 : decode cX8_offBy 11 = .ok (.iload_n 1, 1) := bdX8_offBy_2 (11, .iload_n 1, 1) (List.mem_of_getElem? (i := 5) rfl)
theorem dX8_offBy_12 : decode cX8_offBy 12 = .ok (.iaload, 1) := bdX8_offBy_2 (12, .iaload, 1) (List.mem_of_getElem? (i := 6) rfl)
theorem dX8_offBy_13 : decode cX8_offBy 13 = .ok (.if_icmp .ge 77, 3) := bdX8_offBy_2 (13, .if_icmp .ge 77, 3) (List.mem_of_getElem? (i := 7) rfl)
theorem dX8_offBy_16 : decode cX8_offBy 16 = .ok (.aload_n 0, 1) := bdX8_offBy_2 (16, .aload_n 0, 1) (List.mem_of_getElem? (i := 8) rfl)
theorem dX8_offBy_17 : decode cX8_offBy 17 = .ok (.getfield 57, 3) := bdX8_offBy_2 (17, .getfield 57, 3) (List.mem_of_getElem? (i := 9) rfl)
theorem dX8_offBy_20 : decode cX8_offBy 20 = .ok (.bipush 24, 2) := bdX8_offBy_2 (20, .bipush 24, 2) (List.mem_of_getElem? (i := 10) rfl)
theorem dX8_offBy_22 : decode cX8_offBy 22 = .ok (.iload_n 1, 1) := bdX8_offBy_2 (22, .iload_n 1, 1) (List.mem_of_getElem? (i := 11) rfl)
theorem dX8_offBy_23 : decode cX8_offBy 23 = .ok (.imul, 1) := bdX8_offBy_2 (23, .imul, 1) (List.mem_of_getElem? (i := 12) rfl)
theorem dX8_offBy_24 : decode cX8_offBy 24 = .ok (.iload 5, 2) := bdX8_offBy_2 (24, .iload 5, 2) (List.mem_of_getElem? (i := 13) rfl)
theorem dX8_offBy_26 : decode cX8_offBy 26 = .ok (.iadd, 1) := bdX8_offBy_2 (26, .iadd, 1) (List.mem_of_getElem? (i := 14) rfl)
theorem dX8_offBy_27 : decode cX8_offBy 27 = .ok (.iaload, 1) := bdX8_offBy_2 (27, .iaload, 1) (List.mem_of_getElem? (i := 15) rfl)
theorem dX8_offBy_28 : decode cX8_offBy 28 = .ok (.istore 6, 2) := bdX8_offBy_2 (28, .istore 6, 2) (List.mem_of_getElem? (i := 16) rfl)
theorem dX8_offBy_30 : decode cX8_offBy 30 = .ok (.iload 6, 2) := bdX8_offBy_2 (30, .iload 6, 2) (List.mem_of_getElem? (i := 17) rfl)
theorem dX8_offBy_33 : decode cX8_offBy 33 = .ok (.iload 5, 2) := bdX8_offBy_2 (33, .iload 5, 2) (List.mem_of_getElem? (i := 18) rfl)
theorem dX8_offBy_35 : decode cX8_offBy 35 = .ok (.bipush 8, 2) := bdX8_offBy_2 (35, .bipush 8, 2) (List.mem_of_getElem? (i := 19) rfl)
theorem dX8_offBy_37 : decode cX8_offBy 37 = .ok (.if_icmp .ge 13, 3) := bdX8_offBy_2 (37, .if_icmp .ge 13, 3) (List.mem_of_getElem? (i := 20) rfl)
theorem dX8_offBy_40 : decode cX8_offBy 40 = .ok (.aload_n 0, 1) := bdX8_offBy_2 (40, .aload_n 0, 1) (List.mem_of_getElem? (i := 21) rfl)
theorem dX8_offBy_41 : decode cX8_offBy 41 = .ok (.iload_n 2, 1) := bdX8_offBy_2 (41, .iload_n 2, 1) (List.mem_of_getElem? (i := 22) rfl)
theorem dX8_offBy_42 : decode cX8_offBy 42 = .ok (.iload 5, 2) := bdX8_offBy_2 (42, .iload 5, 2) (List.mem_of_getElem? (i := 23) rfl)
theorem dX8_offBy_44 : decode cX8_offBy 44 = .ok (.invokevirtual 134, 3) := bdX8_offBy_2 (44, .invokevirtual 134, 3) (List.mem_of_getElem? (i := 24) rfl)
theorem dX8_offBy_47 : decode cX8_offBy 47 = .ok (.goto 4, 3) := bdX8_offBy_2 (47, .goto 4, 3) (List.mem_of_getElem? (i := 25) rfl)
theorem dX8_offBy_50 : decode cX8_offBy 50 = .ok (.iconst 0, 1) := bdX8_offBy_2 (50, .iconst 0, 1) (List.mem_of_getElem? (i := 26) rfl)
theorem dX8_offBy_56 : decode cX8_offBy 56 = .ok (.iload 6, 2) := bdX8_offBy_2 (56, .iload 6, 2) (List.mem_of_getElem? (i := 27) rfl)
theorem dX8_offBy_58 : decode cX8_offBy 58 = .ok (.ldc 78, 2) := bdX8_offBy_2 (58, .ldc 78, 2) (List.mem_of_getElem? (i := 28) rfl)
theorem dX8_offBy_60 : decode cX8_offBy 60 = .ok (.if_icmp .ne 7, 3) := bdX8_offBy_2 (60, .if_icmp .ne 7, 3) (List.mem_of_getElem? (i := 29) rfl)
theorem dX8_offBy_64 : decode cX8_offBy 64 = .ok (.goto 18, 3) := bdX8_offBy_2 (64, .goto 18, 3) (List.mem_of_getElem? (i := 30) rfl)
theorem dX8_offBy_71 : decode cX8_offBy 71 = .ok (.ifCond .ge 9, 3) := bdX8_offBy_2 (71, .ifCond .ge 9, 3) (List.mem_of_getElem? (i := 31) rfl)
theorem dX8_offBy_77 : decode cX8_offBy 77 = .ok (.goto 5, 3) := bdX8_offBy_2 (77, .goto 5, 3) (List.mem_of_getElem? (i := 32) rfl)
theorem dX8_offBy_84 : decode cX8_offBy 84 = .ok (.iinc 5 1, 3) := bdX8_offBy_2 (84, .iinc 5 1, 3) (List.mem_of_getElem? (i := 33) rfl)
theorem dX8_offBy_87 : decode cX8_offBy 87 = .ok (.goto (-82), 3) := bdX8_offBy_2 (87, .goto (-82), 3) (List.mem_of_getElem? (i := 34) rfl)
theorem budX8_offBy_0 : ∀ q ∈ ([(0, .ok (.lconst 0, 1)), (1, .ok (.lstore_n 3, 1)), (32, .ok (.i2l, 1)), (51, .ok (.i2l, 1)), (52, .ok (.lsub, 1)), (53, .ok (.lstore 7, 2)), (55, .ok (.lload_n 3, 1)), (63, .ok (.lconst 0, 1)), (67, .ok (.lload 7, 2)), (69, .ok (.lconst 0, 1)), (70, .ok (.lcmp, 1)), (74, .ok (.lload 7, 2)), (76, .ok (.lneg, 1)), (80, .ok (.lload 7, 2)), (82, .ok (.ladd, 1)), (83, .ok (.lstore_n 3, 1)), (90, .ok (.lload_n 3, 1)), (91, .ok (.lreturn, 1))] : List (Nat × Except Jvm.ClassFile.DecodeError (Jvm.ClassFile.Instr × Nat))), decode cX8_offBy q.1 = q.2 := by decide +kernel
theorem dX8_offBy_0 : decode cX8_offBy 0 = .ok (.lconst 0, 1) := budX8_offBy_0 (0, .ok (.lconst 0, 1)) (List.mem_of_getElem? (i := 0) rfl)
theorem dX8_offBy_1 : decode cX8_offBy 1 = .ok (.lstore_n 3, 1) := budX8_offBy_0 (1, .ok (.lstore_n 3, 1)) (List.mem_of_getElem? (i := 1) rfl)
theorem dX8_offBy_32 : decode cX8_offBy 32 = .ok (.i2l, 1) := budX8_offBy_0 (32, .ok (.i2l, 1)) (List.mem_of_getElem? (i := 2) rfl)
theorem dX8_offBy_51 : decode cX8_offBy 51 = .ok (.i2l, 1) := budX8_offBy_0 (51, .ok (.i2l, 1)) (List.mem_of_getElem? (i := 3) rfl)
theorem dX8_offBy_52 : decode cX8_offBy 52 = .ok (.lsub, 1) := budX8_offBy_0 (52, .ok (.lsub, 1)) (List.mem_of_getElem? (i := 4) rfl)
theorem dX8_offBy_53 : decode cX8_offBy 53 = .ok (.lstore 7, 2) := budX8_offBy_0 (53, .ok (.lstore 7, 2)) (List.mem_of_getElem? (i := 5) rfl)
theorem dX8_offBy_55 : decode cX8_offBy 55 = .ok (.lload_n 3, 1) := budX8_offBy_0 (55, .ok (.lload_n 3, 1)) (List.mem_of_getElem? (i := 6) rfl)
theorem dX8_offBy_63 : decode cX8_offBy 63 = .ok (.lconst 0, 1) := budX8_offBy_0 (63, .ok (.lconst 0, 1)) (List.mem_of_getElem? (i := 7) rfl)
theorem dX8_offBy_67 : decode cX8_offBy 67 = .ok (.lload 7, 2) := budX8_offBy_0 (67, .ok (.lload 7, 2)) (List.mem_of_getElem? (i := 8) rfl)
theorem dX8_offBy_69 : decode cX8_offBy 69 = .ok (.lconst 0, 1) := budX8_offBy_0 (69, .ok (.lconst 0, 1)) (List.mem_of_getElem? (i := 9) rfl)
theorem dX8_offBy_70 : decode cX8_offBy 70 = .ok (.lcmp, 1) := budX8_offBy_0 (70, .ok (.lcmp, 1)) (List.mem_of_getElem? (i := 10) rfl)
theorem dX8_offBy_74 : decode cX8_offBy 74 = .ok (.lload 7, 2) := budX8_offBy_0 (74, .ok (.lload 7, 2)) (List.mem_of_getElem? (i := 11) rfl)
theorem dX8_offBy_76 : decode cX8_offBy 76 = .ok (.lneg, 1) := budX8_offBy_0 (76, .ok (.lneg, 1)) (List.mem_of_getElem? (i := 12) rfl)
theorem dX8_offBy_80 : decode cX8_offBy 80 = .ok (.lload 7, 2) := budX8_offBy_0 (80, .ok (.lload 7, 2)) (List.mem_of_getElem? (i := 13) rfl)
theorem dX8_offBy_82 : decode cX8_offBy 82 = .ok (.ladd, 1) := budX8_offBy_0 (82, .ok (.ladd, 1)) (List.mem_of_getElem? (i := 14) rfl)
theorem dX8_offBy_83 : decode cX8_offBy 83 = .ok (.lstore_n 3, 1) := budX8_offBy_0 (83, .ok (.lstore_n 3, 1)) (List.mem_of_getElem? (i := 15) rfl)
theorem dX8_offBy_90 : decode cX8_offBy 90 = .ok (.lload_n 3, 1) := budX8_offBy_0 (90, .ok (.lload_n 3, 1)) (List.mem_of_getElem? (i := 16) rfl)
theorem dX8_offBy_91 : decode cX8_offBy 91 = .ok (.lreturn, 1) := budX8_offBy_0 (91, .ok (.lreturn, 1)) (List.mem_of_getElem? (i := 17) rfl)
theorem fX8_54 : fldOK RX8 54 8 25 (.array .int) true := ⟨_, _, _, tyX8, ⟨rfl, iX8, by decide, rfl, by decide⟩, tw_962, ⟨tyX8_ok, nmX8⟩, by decide +kernel, rfl, rfl⟩
theorem fX8_57 : fldOK RX8 57 8 26 (.array .int) true := ⟨_, _, _, tyX8, ⟨rfl, iX8, by decide, rfl, by decide⟩, tw_963, ⟨tyX8_ok, nmX8⟩, by decide +kernel, rfl, rfl⟩
def BX8_offBy_82 (ln : Nat → Nat) (post : Int64 → HC → Prop) (K5 : HC → Nat → Int32 → Int32 → Int64 → Int32 → Prop) (S : HC) (x0 : Nat) (x1 : Int32) (x2 : Int32) (x5 : Int32) (t0 : Int64) (t1 : Int64) : Prop := lt_ (t0 + t1) fun z1 => lt_ (x5 + (1 : Int32)) fun z2 => K5 S x0 x1 x2 z1 z2
def BX8_offBy_51 (ln : Nat → Nat) (post : Int64 → HC → Prop) (K5 : HC → Nat → Int32 → Int32 → Int64 → Int32 → Prop) (S : HC) (x0 : Nat) (x1 : Int32) (x2 : Int32) (x3 : Int64) (x5 : Int32) (x6 : Int32) (t0 : Int64) (t1 : Int32) : Prop := lt_ (t1.toInt64) fun z3 => lt_ (t0 - z3) fun z4 => if x6 = (-1000000005 : Int32) then (BX8_offBy_82 ln post K5 S x0 x1 x2 x5 x3 (0 : Int64)) else (lt_ (lg_cmp z4 (0 : Int64)) fun z5 => if 0 ≤ z5 then (BX8_offBy_82 ln post K5 S x0 x1 x2 x5 x3 z4) else (lt_ (-z4) fun z6 => BX8_offBy_82 ln post K5 S x0 x1 x2 x5 x3 z6))
def LX8_offBy_5 (ln : Nat → Nat) (post : Int64 → HC → Prop) : Nat → HC → Nat → Int32 → Int32 → Int64 → Int32 → Prop
  | 0 => fun _ _ _ _ _ _ => False
  | n5 + 1 => fun S x0 x1 x2 x3 x5 => dn_ (hR S x0 25) fun b7 => al_ (ln b7) x1 (hI S b7) fun z8 => if z8 ≤ x5 then (post x3 S) else (dn_ (hR S x0 26) fun b9 => lt_ ((24 : Int32) * x1) fun z10 => lt_ (z10 + x5) fun z11 => al_ (ln b9) z11 (hI S b9) fun z12 => lt_ (z12.toInt64) fun z13 => if (8 : Int32) ≤ x5 then (BX8_offBy_51 ln post (LX8_offBy_5 ln post n5) S x0 x1 x2 x3 x5 z12 z13 (0 : Int32)) else (wpX8_borne ln S x0 x2 x5 fun z14 S => BX8_offBy_51 ln post (LX8_offBy_5 ln post n5) S x0 x1 x2 x3 x5 z12 z13 z14))
def wpX8_offBy (ln : Nat → Nat) (S : HC) (a0 : Nat) (a1 : Int32) (a2 : Int32) (post : Int64 → HC → Prop) : Prop := ∃ n5, LX8_offBy_5 ln post n5 S a0 a1 a2 (0 : Int64) (0 : Int32)
abbrev rmX8_offBy : Room := { frames := 2, cells := 0, slots := 0, locals := 44 }
set_option maxHeartbeats 4000000 in
set_option maxRecDepth 100000 in
theorem ctX8_offBy {l : Launch} {g : GX} {N : Nat} {ln : Nat → Nat} {S : HC} {a0 : Nat} {a1 : Int32} {a2 : Int32} {post : Int64 → HC → Prop} (hr_a0 : a0 < N) (hk_a0 : kd a0 = 8) (h : wpX8_offBy ln S a0 a1 a2 post) : Met l yX8_offBy (Cond.code yX8_offBy prog_10_method_50_code 9 (Option.some Jvm.ClassFile.FieldType.long) :: gtbl) rmX8_offBy (va_Pc [.ref (gz g + a0), .int a1, .int a2] (AtP g N ln S)) (QL g N ln post) 0 0 (gF g) := by
  refine m_of (by decide) (Nat.le_of_ble_eq_true rfl) ?_
  intro p e s m below meth c ls F hr I hl
  have hl : lv_has ls 9 [(0, .ref (gz g + a0)), (1, .int a1), (2, .int a2)] := hl
  unfold wpX8_offBy at h
  have hl_5 : ∀ n5 : Nat, ∀ (S : HC) (H : Heap) (locs : List Loc) (ls : Array Slot) (x0 : Nat) (x1 : Int32) (x2 : Int32) (x3 : Int64) (x5 : Int32), x0 < N → kd x0 = 8 → LX8_offBy_5 ln post n5 S x0 x1 x2 x3 x5 → Inv g N ln S s H locs → lv_has ls 9 [(0, .ref (gz g + x0)), (1, .int x1), (2, .int x2), (3, .long x3), (5, .int x5)] → W p l e rmX8_offBy s m ([.ref (gz g + a0), .int a1, .int a2] : List Value).toArray below meth c H locs 0 0 (MQ below (QL g N ln post) ([.ref (gz g + a0), .int a1, .int a2] : List Value).toArray s 0 0 (gF g)) (F0 m 5 ls []) := by
    intro n5
    induction n5 with
    | zero =>
      intro S H locs ls x0 x1 x2 x3 x5 hr_x0 hk_x0 h I hl
      exact h.elim
    | succ n5 ih =>
      have hk5 := ih
      have hj_82 : ∀ (S : HC) (H : Heap) (locs : List Loc) (ls : Array Slot) (x0 : Nat) (x1 : Int32) (x2 : Int32) (x5 : Int32) (t0 : Int64) (t1 : Int64), x0 < N → kd x0 = 8 → BX8_offBy_82 ln post (LX8_offBy_5 ln post n5) S x0 x1 x2 x5 t0 t1 → Inv g N ln S s H locs → lv_has ls 9 [(0, .ref (gz g + x0)), (1, .int x1), (2, .int x2), (5, .int x5)] → W p l e rmX8_offBy s m ([.ref (gz g + a0), .int a1, .int a2] : List Value).toArray below meth c H locs 0 0 (MQ below (QL g N ln post) ([.ref (gz g + a0), .int a1, .int a2] : List Value).toArray s 0 0 (gF g)) (F0 m 82 ls [.long t1, .long t0]) := by
        intro S H locs ls x0 x1 x2 x5 t0 t1 hr_x0 hk_x0 h I hl
        unfold BX8_offBy_82 at h
        refine r_ladd F dX8_offBy_82 h (fun z1 h => ?_)
        refine lv_lstore_n (lv' := [(3, .long z1), (0, .ref (gz g + x0)), (1, .int x1), (2, .int x2), (5, .int x5)]) F.1 F.2.1 dX8_offBy_83 rfl hl (by decide) rfl (fun ls hl => ?_)
        obtain ⟨z2, e_z2, h⟩ := lt_x h
        refine lv_iinc (v := z2) (lv' := [(5, .int z2), (3, .long z1), (0, .ref (gz g + x0)), (1, .int x1), (2, .int x2)]) F.1 F.2.1 dX8_offBy_84 hl (k := 4) rfl (by rw [e_z2]; rfl) (by decide) rfl (fun ls hl => ?_)
        refine lv_goto (tgt := 5) F.1 F.2.1 dX8_offBy_87 (by decide) ?_
        exact hk5 S _ _ _ x0 x1 x2 z1 z2 hr_x0 hk_x0 h I (lv_sub hl [2, 3, 4, 1, 0] rfl)
      have hj_51 : ∀ (S : HC) (H : Heap) (locs : List Loc) (ls : Array Slot) (x0 : Nat) (x1 : Int32) (x2 : Int32) (x3 : Int64) (x5 : Int32) (x6 : Int32) (t0 : Int64) (t1 : Int32), x0 < N → kd x0 = 8 → BX8_offBy_51 ln post (LX8_offBy_5 ln post n5) S x0 x1 x2 x3 x5 x6 t0 t1 → Inv g N ln S s H locs → lv_has ls 9 [(0, .ref (gz g + x0)), (1, .int x1), (2, .int x2), (3, .long x3), (5, .int x5), (6, .int x6)] → W p l e rmX8_offBy s m ([.ref (gz g + a0), .int a1, .int a2] : List Value).toArray below meth c H locs 0 0 (MQ below (QL g N ln post) ([.ref (gz g + a0), .int a1, .int a2] : List Value).toArray s 0 0 (gF g)) (F0 m 51 ls [.int t1, .long t0]) := by
        intro S H locs ls x0 x1 x2 x3 x5 x6 t0 t1 hr_x0 hk_x0 h I hl
        unfold BX8_offBy_51 at h
        refine r_i2l F dX8_offBy_51 h (fun z3 h => ?_)
        refine r_lsub F dX8_offBy_52 h (fun z4 h => ?_)
        refine lv_lstore (lv' := [(7, .long z4), (0, .ref (gz g + x0)), (1, .int x1), (2, .int x2), (3, .long x3), (5, .int x5), (6, .int x6)]) F.1 F.2.1 dX8_offBy_53 hl (by decide) rfl (fun ls hl => ?_)
        refine lv_lload_n F.1 F.2.1 dX8_offBy_55 rfl (lv_at hl 4 rfl) ?_
        refine lv_iload F.1 F.2.1 dX8_offBy_56 (lv_at hl 6 rfl) ?_
        refine lv_ldc F.1 F.2.1 F.2.2.2.1 (F.2.2.2.2 _ tw_1208) dX8_offBy_58 ?_
        refine r_icmp_ne (tgt := 67) F dX8_offBy_60 (by decide) h (fun h => ?_) (fun h => ?_)
        · refine lv_lload F.1 F.2.1 dX8_offBy_67 (lv_at hl 0 rfl) ?_
          refine lv_lconst (v := 0) F.1 F.2.1 dX8_offBy_69 (by decide) ?_
          refine r_lcmp F dX8_offBy_70 h (fun z5 h => ?_)
          refine r_if_ge (tgt := 80) F dX8_offBy_71 (by decide) h (fun h => ?_) (fun h => ?_)
          · refine lv_lload F.1 F.2.1 dX8_offBy_80 (lv_at hl 0 rfl) ?_
            exact hj_82 S _ _ _ x0 x1 x2 x5 x3 z4 hr_x0 hk_x0 h I (lv_sub hl [1, 2, 3, 5] rfl)
          · refine lv_lload F.1 F.2.1 dX8_offBy_74 (lv_at hl 0 rfl) ?_
            refine r_lneg F dX8_offBy_76 h (fun z6 h => ?_)
            refine lv_goto (tgt := 82) F.1 F.2.1 dX8_offBy_77 (by decide) ?_
            exact hj_82 S _ _ _ x0 x1 x2 x5 x3 z6 hr_x0 hk_x0 h I (lv_sub hl [1, 2, 3, 5] rfl)
        · refine lv_lconst (v := 0) F.1 F.2.1 dX8_offBy_63 (by decide) ?_
          refine lv_goto (tgt := 82) F.1 F.2.1 dX8_offBy_64 (by decide) ?_
          exact hj_82 S _ _ _ x0 x1 x2 x5 x3 (0 : Int64) hr_x0 hk_x0 h I (lv_sub hl [1, 2, 3, 5] rfl)
      intro S H locs ls x0 x1 x2 x3 x5 hr_x0 hk_x0 h I hl
      rw [LX8_offBy_5] at h
      refine lv_iload F.1 F.2.1 dX8_offBy_5 (lv_at hl 4 rfl) ?_
      refine lv_aload_n F.1 F.2.1 dX8_offBy_7 rfl (lv_at hl 0 rfl) ?_
      refine r_getN F I hr_x0 hk_x0 fX8_54 (f := 9) rfl (by decide) dX8_offBy_8 h (fun b7 hr_b7 hk_b7 h => ?_)
      refine lv_iload_n F.1 F.2.1 dX8_offBy_11 rfl (lv_at hl 1 rfl) ?_
      refine r_ald F I hr_b7 hk_b7 dX8_offBy_12 h (fun z8 h => ?_)
      refine r_icmp_ge (tgt := 90) F dX8_offBy_13 (by decide) h (fun h => ?_) (fun h => ?_)
      · refine lv_lload_n F.1 F.2.1 dX8_offBy_90 rfl (lv_at hl 3 rfl) ?_
        exact r_lreturn F I ⟨hr.1, hr.2.1, trivial⟩ h dX8_offBy_91
      · refine lv_aload_n F.1 F.2.1 dX8_offBy_16 rfl (lv_at hl 0 rfl) ?_
        refine r_getN F I hr_x0 hk_x0 fX8_57 (f := 9) rfl (by decide) dX8_offBy_17 h (fun b9 hr_b9 hk_b9 h => ?_)
        refine lv_bipush (v := 24) F.1 F.2.1 dX8_offBy_20 (by decide) ?_
        refine lv_iload_n F.1 F.2.1 dX8_offBy_22 rfl (lv_at hl 1 rfl) ?_
        refine r_imul F dX8_offBy_23 h (fun z10 h => ?_)
        refine lv_iload F.1 F.2.1 dX8_offBy_24 (lv_at hl 4 rfl) ?_
        refine r_iadd F dX8_offBy_26 h (fun z11 h => ?_)
        refine r_ald F I hr_b9 hk_b9 dX8_offBy_27 h (fun z12 h => ?_)
        refine lv_istore (lv' := [(6, .int z12), (0, .ref (gz g + x0)), (1, .int x1), (2, .int x2), (3, .long x3), (5, .int x5)]) F.1 F.2.1 dX8_offBy_28 hl (by decide) rfl (fun ls hl => ?_)
        refine lv_iload F.1 F.2.1 dX8_offBy_30 (lv_at hl 0 rfl) ?_
        refine r_i2l F dX8_offBy_32 h (fun z13 h => ?_)
        refine lv_iload F.1 F.2.1 dX8_offBy_33 (lv_at hl 5 rfl) ?_
        refine lv_bipush (v := 8) F.1 F.2.1 dX8_offBy_35 (by decide) ?_
        refine r_icmp_ge (tgt := 50) F dX8_offBy_37 (by decide) h (fun h => ?_) (fun h => ?_)
        · refine lv_iconst (v := 0) F.1 F.2.1 dX8_offBy_50 (by decide) ?_
          exact hj_51 S _ _ _ x0 x1 x2 x3 x5 z12 z13 (0 : Int32) hr_x0 hk_x0 h I (lv_sub hl [1, 2, 3, 4, 5, 0] rfl)
        · refine lv_aload_n F.1 F.2.1 dX8_offBy_40 rfl (lv_at hl 1 rfl) ?_
          refine lv_iload_n F.1 F.2.1 dX8_offBy_41 rfl (lv_at hl 3 rfl) ?_
          refine lv_iload F.1 F.2.1 dX8_offBy_42 (lv_at hl 5 rfl) ?_
          refine g_I I (run_V (As := [.int x2, .int x5]) (rest := [.long z13]) F I hr_x0 hk_x0 (by decide) kX8_134 (ctX8_borne hr_x0 hk_x0 h) ⟨rfl, rfl⟩ ⟨Nat.le_of_ble_eq_true rfl, Nat.le_of_ble_eq_true rfl⟩ rfl hl.1 rfl (Nat.le_of_ble_eq_true rfl) ⟨Nat.le_of_ble_eq_true rfl, Nat.le_of_ble_eq_true rfl⟩ dX8_offBy_44) (fun z14 S H locs I h => ?_)
          refine lv_goto (tgt := 51) F.1 F.2.1 dX8_offBy_47 (by decide) ?_
          exact hj_51 S _ _ _ x0 x1 x2 x3 x5 z12 z13 z14 hr_x0 hk_x0 h I (lv_sub hl [1, 2, 3, 4, 5, 0] rfl)
  refine lv_lconst (v := 0) F.1 F.2.1 dX8_offBy_0 (by decide) ?_
  refine lv_lstore_n (lv' := [(3, .long (0 : Int64)), (0, .ref (gz g + a0)), (1, .int a1), (2, .int a2)]) F.1 F.2.1 dX8_offBy_1 rfl hl (by decide) rfl (fun ls hl => ?_)
  refine lv_iconst (v := 0) F.1 F.2.1 dX8_offBy_2 (by decide) ?_
  refine lv_istore (lv' := [(5, .int (0 : Int32)), (3, .long (0 : Int64)), (0, .ref (gz g + a0)), (1, .int a1), (2, .int a2)]) F.1 F.2.1 dX8_offBy_3 hl (by decide) rfl (fun ls hl => ?_)
  obtain ⟨n5, h⟩ := h
  exact hl_5 n5 S _ _ _ a0 a1 a2 (0 : Int64) (0 : Int32) hr_a0 hk_a0 h I (lv_sub hl [2, 3, 4, 1, 0] rfl)
theorem bdX8_spoon_0 : ∀ q ∈ ([(0, .iload_n 1, 1), (1, .invokestatic 182, 3), (4, .ifCond .eq 12, 3), (7, .iload_n 2, 1), (8, .iconst 0, 1), (9, .iconst 1, 1), (10, .invokestatic 79, 3), (13, .ifCond .ne 6, 3), (16, .ldc 98, 2), (18, .ireturn, 1), (19, .aload_n 0, 1), (20, .getfield 51, 3), (23, .iload_n 1, 1), (24, .iaload, 1), (25, .ifCond .ge 6, 3), (28, .ldc 185, 2), (30, .ireturn, 1), (31, .aload_n 0, 1), (32, .invokevirtual 161, 3), (35, .iconst (-1), 1), (36, .istore_n 3, 1), (40, .iconst 0, 1), (41, .istore 6, 2), (43, .iload 6, 2), (45, .aload_n 0, 1), (46, .getfield 9, 3), (49, .iconst 1, 1), (50, .iaload, 1), (51, .if_icmp .ge 37, 3), (54, .aload_n 0, 1), (55, .iload_n 1, 1), (56, .iload 6, 2), (58, .invokevirtual 186, 3), (63, .iload_n 3, 1), (64, .ifCond .lt 11, 3), (72, .ifCond .ge 10, 3), (75, .iload 6, 2), (77, .istore_n 3, 1), (82, .iinc 6 1, 3), (85, .goto (-42), 3)] : List (Nat × Jvm.ClassFile.Instr × Nat)), decode cX8_spoon q.1 = .ok q.2 := chk_ok _ 0 _ rfl (by decide +kernel)
theorem dX8_spoon_0 : decode cX8_spoon 0 = .ok (.iload_n 1, 1) := bdX8_spoon_0 (0, .iload_n 1, 1) (List.mem_of_getElem? (i := 0) rfl)
theorem dX8_spoon_1 : decode cX8_spoon 1 = .ok (.invokestatic 182, 3) := bdX8_spoon_0 (1, .invokestatic 182, 3) (List.mem_of_getElem? (i := 1) rfl)
theorem dX8_spoon_4 : decode cX8_spoon 4 = .ok (.ifCond .eq 12, 3) := bdX8_spoon_0 (4, .ifCond .eq 12, 3) (List.mem_of_getElem? (i := 2) rfl)
theorem dX8_spoon_7 : decode cX8_spoon 7 = .ok (.iload_n 2, 1) := bdX8_spoon_0 (7, .iload_n 2, 1) (List.mem_of_getElem? (i := 3) rfl)
theorem dX8_spoon_8 : decode cX8_spoon 8 = .ok (.iconst 0, 1) := bdX8_spoon_0 (8, .iconst 0, 1) (List.mem_of_getElem? (i := 4) rfl)
theorem dX8_spoon_9 : decode cX8_spoon 9 = .ok (.iconst 1, 1) := bdX8_spoon_0 (9, .iconst 1, 1) (List.mem_of_getElem? (i := 5) rfl)
theorem dX8_spoon_10 : decode cX8_spoon 10 = .ok (.invokestatic 79, 3) := bdX8_spoon_0 (10, .invokestatic 79, 3) (List.mem_of_getElem? (i := 6) rfl)
theorem dX8_spoon_13 : decode cX8_spoon 13 = .ok (.ifCond .ne 6, 3) := bdX8_spoon_0 (13, .ifCond .ne 6, 3) (List.mem_of_getElem? (i := 7) rfl)
theorem dX8_spoon_16 : decode cX8_spoon 16 = .ok (.ldc 98, 2) := bdX8_spoon_0 (16, .ldc 98, 2) (List.mem_of_getElem? (i := 8) rfl)
theorem dX8_spoon_18 : decode cX8_spoon 18 = .ok (.ireturn, 1) := bdX8_spoon_0 (18, .ireturn, 1) (List.mem_of_getElem? (i := 9) rfl)
theorem dX8_spoon_19 : decode cX8_spoon 19 = .ok (.aload_n 0, 1) := bdX8_spoon_0 (19, .aload_n 0, 1) (List.mem_of_getElem? (i := 10) rfl)
theorem dX8_spoon_20 : decode cX8_spoon 20 = .ok (.getfield 51, 3) := bdX8_spoon_0 (20, .getfield 51, 3) (List.mem_of_getElem? (i := 11) rfl)
theorem dX8_spoon_23 : decode cX8_spoon 23 = .ok (.iload_n 1, 1) := bdX8_spoon_0 (23, .iload_n 1, 1) (List.mem_of_getElem? (i := 12) rfl)
theorem dX8_spoon_24 : decode cX8_spoon 24 = .ok (.iaload, 1) := bdX8_spoon_0 (24, .iaload, 1) (List.mem_of_getElem? (i := 13) rfl)
theorem dX8_spoon_25 : decode cX8_spoon 25 = .ok (.ifCond .ge 6, 3) := bdX8_spoon_0 (25, .ifCond .ge 6, 3) (List.mem_of_getElem? (i := 14) rfl)
theorem dX8_spoon_28 : decode cX8_spoon 28 = .ok (.ldc 185, 2) := bdX8_spoon_0 (28, .ldc 185, 2) (List.mem_of_getElem? (i := 15) rfl)
theorem dX8_spoon_30 : decode cX8_spoon 30 = .ok (.ireturn, 1) := bdX8_spoon_0 (30, .ireturn, 1) (List.mem_of_getElem? (i := 16) rfl)
theorem dX8_spoon_31 : decode cX8_spoon 31 = .ok (.aload_n 0, 1) := bdX8_spoon_0 (31, .aload_n 0, 1) (List.mem_of_getElem? (i := 17) rfl)
theorem dX8_spoon_32 : decode cX8_spoon 32 = .ok (.invokevirtual 161, 3) := bdX8_spoon_0 (32, .invokevirtual 161, 3) (List.mem_of_getElem? (i := 18) rfl)
theorem dX8_spoon_35 : decode cX8_spoon 35 = .ok (.iconst (-1), 1) := bdX8_spoon_0 (35, .iconst (-1), 1) (List.mem_of_getElem? (i := 19) rfl)
theorem dX8_spoon_36 : decode cX8_spoon 36 = .ok (.istore_n 3, 1) := bdX8_spoon_0 (36, .istore_n 3, 1) (List.mem_of_getElem? (i := 20) rfl)
theorem dX8_spoon_40 : decode cX8_spoon 40 = .ok (.iconst 0, 1) := bdX8_spoon_0 (40, .iconst 0, 1) (List.mem_of_getElem? (i := 21) rfl)
theorem dX8_spoon_41 : decode cX8_spoon 41 = .ok (.istore 6, 2) := bdX8_spoon_0 (41, .istore 6, 2) (List.mem_of_getElem? (i := 22) rfl)
theorem dX8_spoon_43 : decode cX8_spoon 43 = .ok (.iload 6, 2) := bdX8_spoon_0 (43, .iload 6, 2) (List.mem_of_getElem? (i := 23) rfl)
theorem dX8_spoon_45 : decode cX8_spoon 45 = .ok (.aload_n 0, 1) := bdX8_spoon_0 (45, .aload_n 0, 1) (List.mem_of_getElem? (i := 24) rfl)
theorem dX8_spoon_46 : decode cX8_spoon 46 = .ok (.getfield 9, 3) := bdX8_spoon_0 (46, .getfield 9, 3) (List.mem_of_getElem? (i := 25) rfl)
theorem dX8_spoon_49 : decode cX8_spoon 49 = .ok (.iconst 1, 1) := bdX8_spoon_0 (49, .iconst 1, 1) (List.mem_of_getElem? (i := 26) rfl)
theorem dX8_spoon_50 : decode cX8_spoon 50 = .ok (.iaload, 1) := bdX8_spoon_0 (50, .iaload, 1) (List.mem_of_getElem? (i := 27) rfl)
theorem dX8_spoon_51 : decode cX8_spoon 51 = .ok (.if_icmp .ge 37, 3) := bdX8_spoon_0 (51, .if_icmp .ge 37, 3) (List.mem_of_getElem? (i := 28) rfl)
theorem dX8_spoon_54 : decode cX8_spoon 54 = .ok (.aload_n 0, 1) := bdX8_spoon_0 (54, .aload_n 0, 1) (List.mem_of_getElem? (i := 29) rfl)
theorem dX8_spoon_55 : decode cX8_spoon 55 = .ok (.iload_n 1, 1) := bdX8_spoon_0 (55, .iload_n 1, 1) (List.mem_of_getElem? (i := 30) rfl)
theorem dX8_spoon_56 : decode cX8_spoon 56 = .ok (.iload 6, 2) := bdX8_spoon_0 (56, .iload 6, 2) (List.mem_of_getElem? (i := 31) rfl)
theorem dX8_spoon_58 : decode cX8_spoon 58 = .ok (.invokevirtual 186, 3) := bdX8_spoon_0 (58, .invokevirtual 186, 3) (List.mem_of_getElem? (i := 32) rfl)
theorem dX8_spoon_63 : decode cX8_spoon 63 = .ok (.iload_n 3, 1) := bdX8_spoon_0 (63, .iload_n 3, 1) (List.mem_of_getElem? (i := 33) rfl)
theorem dX8_spoon_64 : decode cX8_spoon 64 = .ok (.ifCond .lt 11, 3) := bdX8_spoon_0 (64, .ifCond .lt 11, 3) (List.mem_of_getElem? (i := 34) rfl)
theorem dX8_spoon_72 : decode cX8_spoon 72 = .ok (.ifCond .ge 10, 3) := bdX8_spoon_0 (72, .ifCond .ge 10, 3) (List.mem_of_getElem? (i := 35) rfl)
theorem dX8_spoon_75 : decode cX8_spoon 75 = .ok (.iload 6, 2) := bdX8_spoon_0 (75, .iload 6, 2) (List.mem_of_getElem? (i := 36) rfl)
theorem dX8_spoon_77 : decode cX8_spoon 77 = .ok (.istore_n 3, 1) := bdX8_spoon_0 (77, .istore_n 3, 1) (List.mem_of_getElem? (i := 37) rfl)
theorem dX8_spoon_82 : decode cX8_spoon 82 = .ok (.iinc 6 1, 3) := bdX8_spoon_0 (82, .iinc 6 1, 3) (List.mem_of_getElem? (i := 38) rfl)
theorem dX8_spoon_85 : decode cX8_spoon 85 = .ok (.goto (-42), 3) := bdX8_spoon_0 (85, .goto (-42), 3) (List.mem_of_getElem? (i := 39) rfl)
theorem bdX8_spoon_88 : ∀ q ∈ ([(88, .iload_n 3, 1), (89, .ifCond .ge 8, 3), (92, .ldc 78, 2), (94, .goto 14, 3), (97, .iload_n 2, 1), (98, .ifCond .ne 7, 3), (101, .iload_n 3, 1), (102, .goto 6, 3), (108, .ireturn, 1)] : List (Nat × Jvm.ClassFile.Instr × Nat)), decode cX8_spoon q.1 = .ok q.2 := chk_ok _ 88 _ rfl (by decide +kernel)
theorem dX8_spoon_88 : decode cX8_spoon 88 = .ok (.iload_n 3, 1) := bdX8_spoon_88 (88, .iload_n 3, 1) (List.mem_of_getElem? (i := 0) rfl)
theorem dX8_spoon_89 : decode cX8_spoon 89 = .ok (.ifCond .ge 8, 3) := bdX8_spoon_88 (89, .ifCond .ge 8, 3) (List.mem_of_getElem? (i := 1) rfl)
theorem dX8_spoon_92 : decode cX8_spoon 92 = .ok (.ldc 78, 2) := bdX8_spoon_88 (92, .ldc 78, 2) (List.mem_of_getElem? (i := 2) rfl)
theorem dX8_spoon_94 : decode cX8_spoon 94 = .ok (.goto 14, 3) := bdX8_spoon_88 (94, .goto 14, 3) (List.mem_of_getElem? (i := 3) rfl)
theorem dX8_spoon_97 : decode cX8_spoon 97 = .ok (.iload_n 2, 1) := bdX8_spoon_88 (97, .iload_n 2, 1) (List.mem_of_getElem? (i := 4) rfl)
theorem dX8_spoon_98 : decode cX8_spoon 98 = .ok (.ifCond .ne 7, 3) := bdX8_spoon_88 (98, .ifCond .ne 7, 3) (List.mem_of_getElem? (i := 5) rfl)
theorem dX8_spoon_101 : decode cX8_spoon 101 = .ok (.iload_n 3, 1) := bdX8_spoon_88 (101, .iload_n 3, 1) (List.mem_of_getElem? (i := 6) rfl)
theorem dX8_spoon_102 : decode cX8_spoon 102 = .ok (.goto 6, 3) := bdX8_spoon_88 (102, .goto 6, 3) (List.mem_of_getElem? (i := 7) rfl)
theorem dX8_spoon_108 : decode cX8_spoon 108 = .ok (.ireturn, 1) := bdX8_spoon_88 (108, .ireturn, 1) (List.mem_of_getElem? (i := 8) rfl)
theorem budX8_spoon_37 : ∀ q ∈ ([(37, .ok (.lconst 0, 1)), (38, .ok (.lstore 4, 2)), (61, .ok (.lstore 7, 2)), (67, .ok (.lload 7, 2)), (69, .ok (.lload 4, 2)), (71, .ok (.lcmp, 1)), (78, .ok (.lload 7, 2)), (80, .ok (.lstore 4, 2)), (105, .ok (.lload 4, 2)), (107, .ok (.l2i, 1))] : List (Nat × Except Jvm.ClassFile.DecodeError (Jvm.ClassFile.Instr × Nat))), decode cX8_spoon q.1 = q.2 := by decide +kernel
theorem dX8_spoon_37 : decode cX8_spoon 37 = .ok (.lconst 0, 1) := budX8_spoon_37 (37, .ok (.lconst 0, 1)) (List.mem_of_getElem? (i := 0) rfl)
theorem dX8_spoon_38 : decode cX8_spoon 38 = .ok (.lstore 4, 2) := budX8_spoon_37 (38, .ok (.lstore 4, 2)) (List.mem_of_getElem? (i := 1) rfl)
theorem dX8_spoon_61 : decode cX8_spoon 61 = .ok (.lstore 7, 2) := budX8_spoon_37 (61, .ok (.lstore 7, 2)) (List.mem_of_getElem? (i := 2) rfl)
theorem dX8_spoon_67 : decode cX8_spoon 67 = .ok (.lload 7, 2) := budX8_spoon_37 (67, .ok (.lload 7, 2)) (List.mem_of_getElem? (i := 3) rfl)
theorem dX8_spoon_69 : decode cX8_spoon 69 = .ok (.lload 4, 2) := budX8_spoon_37 (69, .ok (.lload 4, 2)) (List.mem_of_getElem? (i := 4) rfl)
theorem dX8_spoon_71 : decode cX8_spoon 71 = .ok (.lcmp, 1) := budX8_spoon_37 (71, .ok (.lcmp, 1)) (List.mem_of_getElem? (i := 5) rfl)
theorem dX8_spoon_78 : decode cX8_spoon 78 = .ok (.lload 7, 2) := budX8_spoon_37 (78, .ok (.lload 7, 2)) (List.mem_of_getElem? (i := 6) rfl)
theorem dX8_spoon_80 : decode cX8_spoon 80 = .ok (.lstore 4, 2) := budX8_spoon_37 (80, .ok (.lstore 4, 2)) (List.mem_of_getElem? (i := 7) rfl)
theorem dX8_spoon_105 : decode cX8_spoon 105 = .ok (.lload 4, 2) := budX8_spoon_37 (105, .ok (.lload 4, 2)) (List.mem_of_getElem? (i := 8) rfl)
theorem dX8_spoon_107 : decode cX8_spoon 107 = .ok (.l2i, 1) := budX8_spoon_37 (107, .ok (.l2i, 1)) (List.mem_of_getElem? (i := 9) rfl)
theorem kX8_186 : mthV RX8 186 8 yX8_offBy prog_10_method_50_code 9 (Option.some Jvm.ClassFile.FieldType.long) 2 := ⟨⟨⟨tw_1249, tw_67, tw_1252⟩, rfl, by decide +kernel⟩, tw_1251, tw_47, rfl⟩
theorem kX8_182 : mthS RX8 182 yX8_isSheet prog_10_method_73_code 1 (Option.some Jvm.ClassFile.FieldType.boolean) 1 := ⟨⟨⟨tw_1245, tw_67, tw_1247⟩, rfl, by decide +kernel⟩, tw_1246⟩
theorem fX8_51 : fldOK RX8 51 8 24 (.array .int) true := ⟨_, _, _, tyX8, ⟨rfl, iX8, by decide, rfl, by decide⟩, tw_961, ⟨tyX8_ok, nmX8⟩, by decide +kernel, rfl, rfl⟩
def BX8_spoon_82 (ln : Nat → Nat) (post : Int32 → HC → Prop) (K43 : HC → Nat → Int32 → Int32 → Int32 → Int64 → Int32 → Prop) (S : HC) (x0 : Nat) (x1 : Int32) (x2 : Int32) (x3 : Int32) (x4 : Int64) (x6 : Int32) : Prop := lt_ (x6 + (1 : Int32)) fun z1 => K43 S x0 x1 x2 x3 x4 z1
def BX8_spoon_75 (ln : Nat → Nat) (post : Int32 → HC → Prop) (K43 : HC → Nat → Int32 → Int32 → Int32 → Int64 → Int32 → Prop) (S : HC) (x0 : Nat) (x1 : Int32) (x2 : Int32) (x6 : Int32) (x7 : Int64) : Prop := BX8_spoon_82 ln post K43 S x0 x1 x2 x6 x7 x6
def LX8_spoon_43 (ln : Nat → Nat) (post : Int32 → HC → Prop) : Nat → HC → Nat → Int32 → Int32 → Int32 → Int64 → Int32 → Prop
  | 0 => fun _ _ _ _ _ _ _ => False
  | n43 + 1 => fun S x0 x1 x2 x3 x4 x6 => dn_ (hR S x0 0) fun b2 => al_ (ln b2) (1 : Int32) (hI S b2) fun z3 => if z3 ≤ x6 then (if 0 ≤ x3 then (if x2 = 0 then (post x3 S) else (lt_ (x4.toInt32) fun z4 => post z4 S)) else (post (-1000000005 : Int32) S)) else (wpX8_offBy ln S x0 x1 x6 fun z5 S => if x3 < 0 then (BX8_spoon_75 ln post (LX8_spoon_43 ln post n43) S x0 x1 x2 x6 z5) else (lt_ (lg_cmp z5 x4) fun z6 => if 0 ≤ z6 then (BX8_spoon_82 ln post (LX8_spoon_43 ln post n43) S x0 x1 x2 x3 x4 x6) else (BX8_spoon_75 ln post (LX8_spoon_43 ln post n43) S x0 x1 x2 x6 z5)))
def BX8_spoon_16 (ln : Nat → Nat) (post : Int32 → HC → Prop) (S : HC)  : Prop := post (-1000000001 : Int32) S
def wpX8_spoon (ln : Nat → Nat) (S : HC) (a0 : Nat) (a1 : Int32) (a2 : Int32) (post : Int32 → HC → Prop) : Prop := wpX8_isSheet ln S a1 fun z7 S => if z7 = 0 then (BX8_spoon_16 ln post S) else (wpX8_in ln S a2 (0 : Int32) (1 : Int32) fun z8 S => if z8 = 0 then (BX8_spoon_16 ln post S) else (dn_ (hR S a0 24) fun b9 => al_ (ln b9) a1 (hI S b9) fun z10 => if 0 ≤ z10 then (wpX8_worksAll ln S a0 fun S => ∃ n43, LX8_spoon_43 ln post n43 S a0 a1 a2 (-1 : Int32) (0 : Int64) (0 : Int32)) else (post (-1000000011 : Int32) S)))
abbrev rmX8_spoon : Room := { frames := 7, cells := 0, slots := 0, locals := 165 }
set_option maxHeartbeats 4000000 in
set_option maxRecDepth 100000 in
theorem ctX8_spoon {l : Launch} {g : GX} {N : Nat} {ln : Nat → Nat} {S : HC} {a0 : Nat} {a1 : Int32} {a2 : Int32} {post : Int32 → HC → Prop} (hr_a0 : a0 < N) (hk_a0 : kd a0 = 8) (h : wpX8_spoon ln S a0 a1 a2 post) : Met l yX8_spoon (Cond.code yX8_spoon prog_10_method_51_code 9 (Option.some Jvm.ClassFile.FieldType.int) :: gtbl) rmX8_spoon (va_Pc [.ref (gz g + a0), .int a1, .int a2] (AtP g N ln S)) (QI g N ln post) 0 0 (gF g) := by
  refine m_of (by decide) (Nat.le_of_ble_eq_true rfl) ?_
  intro p e s m below meth c ls F hr I hl
  have hl : lv_has ls 9 [(0, .ref (gz g + a0)), (1, .int a1), (2, .int a2)] := hl
  unfold wpX8_spoon at h
  have hl_43 : ∀ n43 : Nat, ∀ (S : HC) (H : Heap) (locs : List Loc) (ls : Array Slot) (x0 : Nat) (x1 : Int32) (x2 : Int32) (x3 : Int32) (x4 : Int64) (x6 : Int32), x0 < N → kd x0 = 8 → LX8_spoon_43 ln post n43 S x0 x1 x2 x3 x4 x6 → Inv g N ln S s H locs → lv_has ls 9 [(0, .ref (gz g + x0)), (1, .int x1), (2, .int x2), (3, .int x3), (4, .long x4), (6, .int x6)] → W p l e rmX8_spoon s m ([.ref (gz g + a0), .int a1, .int a2] : List Value).toArray below meth c H locs 0 0 (MQ below (QI g N ln post) ([.ref (gz g + a0), .int a1, .int a2] : List Value).toArray s 0 0 (gF g)) (F0 m 43 ls []) := by
    intro n43
    induction n43 with
    | zero =>
      intro S H locs ls x0 x1 x2 x3 x4 x6 hr_x0 hk_x0 h I hl
      exact h.elim
    | succ n43 ih =>
      have hk43 := ih
      have hj_82 : ∀ (S : HC) (H : Heap) (locs : List Loc) (ls : Array Slot) (x0 : Nat) (x1 : Int32) (x2 : Int32) (x3 : Int32) (x4 : Int64) (x6 : Int32), x0 < N → kd x0 = 8 → BX8_spoon_82 ln post (LX8_spoon_43 ln post n43) S x0 x1 x2 x3 x4 x6 → Inv g N ln S s H locs → lv_has ls 9 [(0, .ref (gz g + x0)), (1, .int x1), (2, .int x2), (3, .int x3), (4, .long x4), (6, .int x6)] → W p l e rmX8_spoon s m ([.ref (gz g + a0), .int a1, .int a2] : List Value).toArray below meth c H locs 0 0 (MQ below (QI g N ln post) ([.ref (gz g + a0), .int a1, .int a2] : List Value).toArray s 0 0 (gF g)) (F0 m 82 ls []) := by
        intro S H locs ls x0 x1 x2 x3 x4 x6 hr_x0 hk_x0 h I hl
        unfold BX8_spoon_82 at h
        obtain ⟨z1, e_z1, h⟩ := lt_x h
        refine lv_iinc (v := z1) (lv' := [(6, .int z1), (0, .ref (gz g + x0)), (1, .int x1), (2, .int x2), (3, .int x3), (4, .long x4)]) F.1 F.2.1 dX8_spoon_82 hl (k := 5) rfl (by rw [e_z1]; rfl) (by decide) rfl (fun ls hl => ?_)
        refine lv_goto (tgt := 43) F.1 F.2.1 dX8_spoon_85 (by decide) ?_
        exact hk43 S _ _ _ x0 x1 x2 x3 x4 z1 hr_x0 hk_x0 h I (lv_sub hl [1, 2, 3, 4, 5, 0] rfl)
      have hj_75 : ∀ (S : HC) (H : Heap) (locs : List Loc) (ls : Array Slot) (x0 : Nat) (x1 : Int32) (x2 : Int32) (x6 : Int32) (x7 : Int64), x0 < N → kd x0 = 8 → BX8_spoon_75 ln post (LX8_spoon_43 ln post n43) S x0 x1 x2 x6 x7 → Inv g N ln S s H locs → lv_has ls 9 [(0, .ref (gz g + x0)), (1, .int x1), (2, .int x2), (6, .int x6), (7, .long x7)] → W p l e rmX8_spoon s m ([.ref (gz g + a0), .int a1, .int a2] : List Value).toArray below meth c H locs 0 0 (MQ below (QI g N ln post) ([.ref (gz g + a0), .int a1, .int a2] : List Value).toArray s 0 0 (gF g)) (F0 m 75 ls []) := by
        intro S H locs ls x0 x1 x2 x6 x7 hr_x0 hk_x0 h I hl
        unfold BX8_spoon_75 at h
        refine lv_iload F.1 F.2.1 dX8_spoon_75 (lv_at hl 3 rfl) ?_
        refine lv_istore_n (lv' := [(3, .int x6), (0, .ref (gz g + x0)), (1, .int x1), (2, .int x2), (6, .int x6), (7, .long x7)]) F.1 F.2.1 dX8_spoon_77 rfl hl (by decide) rfl (fun ls hl => ?_)
        refine lv_lload F.1 F.2.1 dX8_spoon_78 (lv_at hl 5 rfl) ?_
        refine lv_lstore (lv' := [(4, .long x7), (3, .int x6), (0, .ref (gz g + x0)), (1, .int x1), (2, .int x2), (6, .int x6), (7, .long x7)]) F.1 F.2.1 dX8_spoon_80 hl (by decide) rfl (fun ls hl => ?_)
        exact hj_82 S _ _ _ x0 x1 x2 x6 x7 x6 hr_x0 hk_x0 h I (lv_sub hl [2, 3, 4, 1, 0, 5] rfl)
      intro S H locs ls x0 x1 x2 x3 x4 x6 hr_x0 hk_x0 h I hl
      rw [LX8_spoon_43] at h
      refine lv_iload F.1 F.2.1 dX8_spoon_43 (lv_at hl 5 rfl) ?_
      refine lv_aload_n F.1 F.2.1 dX8_spoon_45 rfl (lv_at hl 0 rfl) ?_
      refine r_getN F I hr_x0 hk_x0 fX8_9 (f := 9) rfl (by decide) dX8_spoon_46 h (fun b2 hr_b2 hk_b2 h => ?_)
      refine lv_iconst (v := 1) F.1 F.2.1 dX8_spoon_49 (by decide) ?_
      refine r_ald F I hr_b2 hk_b2 dX8_spoon_50 h (fun z3 h => ?_)
      refine r_icmp_ge (tgt := 88) F dX8_spoon_51 (by decide) h (fun h => ?_) (fun h => ?_)
      · refine lv_iload_n F.1 F.2.1 dX8_spoon_88 rfl (lv_at hl 3 rfl) ?_
        refine r_if_ge (tgt := 97) F dX8_spoon_89 (by decide) h (fun h => ?_) (fun h => ?_)
        · refine lv_iload_n F.1 F.2.1 dX8_spoon_97 rfl (lv_at hl 2 rfl) ?_
          refine r_if_ne (tgt := 105) F dX8_spoon_98 (by decide) h (fun h => ?_) (fun h => ?_)
          · refine lv_lload F.1 F.2.1 dX8_spoon_105 (lv_at hl 4 rfl) ?_
            refine r_l2i F dX8_spoon_107 h (fun z4 h => ?_)
            exact r_ireturn F I ⟨hr.1, hr.2.1, trivial⟩ h dX8_spoon_108
          · refine lv_iload_n F.1 F.2.1 dX8_spoon_101 rfl (lv_at hl 3 rfl) ?_
            refine lv_goto (tgt := 108) F.1 F.2.1 dX8_spoon_102 (by decide) ?_
            exact r_ireturn F I ⟨hr.1, hr.2.1, trivial⟩ h dX8_spoon_108
        · refine lv_ldc F.1 F.2.1 F.2.2.2.1 (F.2.2.2.2 _ tw_1208) dX8_spoon_92 ?_
          refine lv_goto (tgt := 108) F.1 F.2.1 dX8_spoon_94 (by decide) ?_
          exact r_ireturn F I ⟨hr.1, hr.2.1, trivial⟩ h dX8_spoon_108
      · refine lv_aload_n F.1 F.2.1 dX8_spoon_54 rfl (lv_at hl 0 rfl) ?_
        refine lv_iload_n F.1 F.2.1 dX8_spoon_55 rfl (lv_at hl 1 rfl) ?_
        refine lv_iload F.1 F.2.1 dX8_spoon_56 (lv_at hl 5 rfl) ?_
        refine g_L I (run_V (As := [.int x1, .int x6]) (rest := []) F I hr_x0 hk_x0 (by decide) kX8_186 (ctX8_offBy hr_x0 hk_x0 h) ⟨rfl, rfl⟩ ⟨Nat.le_of_ble_eq_true rfl, Nat.le_of_ble_eq_true rfl⟩ rfl hl.1 rfl (Nat.le_of_ble_eq_true rfl) ⟨Nat.le_of_ble_eq_true rfl, Nat.le_of_ble_eq_true rfl⟩ dX8_spoon_58) (fun z5 S H locs I h => ?_)
        refine lv_lstore (lv' := [(7, .long z5), (0, .ref (gz g + x0)), (1, .int x1), (2, .int x2), (3, .int x3), (4, .long x4), (6, .int x6)]) F.1 F.2.1 dX8_spoon_61 hl (by decide) rfl (fun ls hl => ?_)
        refine lv_iload_n F.1 F.2.1 dX8_spoon_63 rfl (lv_at hl 4 rfl) ?_
        refine r_if_lt (tgt := 75) F dX8_spoon_64 (by decide) h (fun h => ?_) (fun h => ?_)
        · exact hj_75 S _ _ _ x0 x1 x2 x6 z5 hr_x0 hk_x0 h I (lv_sub hl [1, 2, 3, 6, 0] rfl)
        · refine lv_lload F.1 F.2.1 dX8_spoon_67 (lv_at hl 0 rfl) ?_
          refine lv_lload F.1 F.2.1 dX8_spoon_69 (lv_at hl 5 rfl) ?_
          refine r_lcmp F dX8_spoon_71 h (fun z6 h => ?_)
          refine r_if_ge (tgt := 82) F dX8_spoon_72 (by decide) h (fun h => ?_) (fun h => ?_)
          · exact hj_82 S _ _ _ x0 x1 x2 x3 x4 x6 hr_x0 hk_x0 h I (lv_sub hl [1, 2, 3, 4, 5, 6] rfl)
          · exact hj_75 S _ _ _ x0 x1 x2 x6 z5 hr_x0 hk_x0 h I (lv_sub hl [1, 2, 3, 6, 0] rfl)
  have hj_16 : ∀ (S : HC) (H : Heap) (locs : List Loc) (ls : Array Slot), BX8_spoon_16 ln post S  → Inv g N ln S s H locs → lv_has ls 9 [] → W p l e rmX8_spoon s m ([.ref (gz g + a0), .int a1, .int a2] : List Value).toArray below meth c H locs 0 0 (MQ below (QI g N ln post) ([.ref (gz g + a0), .int a1, .int a2] : List Value).toArray s 0 0 (gF g)) (F0 m 16 ls []) := by
    intro S H locs ls h I hl
    unfold BX8_spoon_16 at h
    refine lv_ldc F.1 F.2.1 F.2.2.2.1 (F.2.2.2.2 _ tw_1064) dX8_spoon_16 ?_
    exact r_ireturn F I ⟨hr.1, hr.2.1, trivial⟩ h dX8_spoon_18
  refine lv_iload_n F.1 F.2.1 dX8_spoon_0 rfl (lv_at hl 1 rfl) ?_
  refine g_I I (run_S (As := [.int a1]) (rest := []) F I kX8_182 (ctX8_isSheet h) ⟨rfl, rfl⟩ ⟨Nat.le_of_ble_eq_true rfl, Nat.le_of_ble_eq_true rfl⟩ rfl hl.1 rfl (Nat.le_of_ble_eq_true rfl) ⟨Nat.le_of_ble_eq_true rfl, Nat.le_of_ble_eq_true rfl⟩ dX8_spoon_1) (fun z7 S H locs I h => ?_)
  refine r_if_eq (tgt := 16) F dX8_spoon_4 (by decide) h (fun h => ?_) (fun h => ?_)
  · exact hj_16 S _ _ _   h I (lv_sub hl [] rfl)
  · refine lv_iload_n F.1 F.2.1 dX8_spoon_7 rfl (lv_at hl 2 rfl) ?_
    refine lv_iconst (v := 0) F.1 F.2.1 dX8_spoon_8 (by decide) ?_
    refine lv_iconst (v := 1) F.1 F.2.1 dX8_spoon_9 (by decide) ?_
    refine g_I I (run_S (As := [.int a2, .int (0 : Int32), .int (1 : Int32)]) (rest := []) F I kX8_79 (ctX8_in h) ⟨rfl, rfl⟩ ⟨Nat.le_of_ble_eq_true rfl, Nat.le_of_ble_eq_true rfl⟩ rfl hl.1 rfl (Nat.le_of_ble_eq_true rfl) ⟨Nat.le_of_ble_eq_true rfl, Nat.le_of_ble_eq_true rfl⟩ dX8_spoon_10) (fun z8 S H locs I h => ?_)
    refine r_if_ne (tgt := 19) F dX8_spoon_13 (by decide) h (fun h => ?_) (fun h => ?_)
    · refine lv_aload_n F.1 F.2.1 dX8_spoon_19 rfl (lv_at hl 0 rfl) ?_
      refine r_getN F I hr_a0 hk_a0 fX8_51 (f := 9) rfl (by decide) dX8_spoon_20 h (fun b9 hr_b9 hk_b9 h => ?_)
      refine lv_iload_n F.1 F.2.1 dX8_spoon_23 rfl (lv_at hl 1 rfl) ?_
      refine r_ald F I hr_b9 hk_b9 dX8_spoon_24 h (fun z10 h => ?_)
      refine r_if_ge (tgt := 31) F dX8_spoon_25 (by decide) h (fun h => ?_) (fun h => ?_)
      · refine lv_aload_n F.1 F.2.1 dX8_spoon_31 rfl (lv_at hl 0 rfl) ?_
        refine g_V I (run_V (As := []) (rest := []) F I hr_a0 hk_a0 (by decide) kX8_161 (ctX8_worksAll hr_a0 hk_a0 h) ⟨rfl, rfl⟩ ⟨Nat.le_of_ble_eq_true rfl, Nat.le_of_ble_eq_true rfl⟩ rfl hl.1 rfl (Nat.le_of_ble_eq_true rfl) ⟨Nat.le_of_ble_eq_true rfl, Nat.le_of_ble_eq_true rfl⟩ dX8_spoon_32) (fun S H locs I h => ?_)
        refine lv_iconst (v := -1) F.1 F.2.1 dX8_spoon_35 (by decide) ?_
        refine lv_istore_n (lv' := [(3, .int (-1 : Int32)), (0, .ref (gz g + a0)), (1, .int a1), (2, .int a2)]) F.1 F.2.1 dX8_spoon_36 rfl hl (by decide) rfl (fun ls hl => ?_)
        refine lv_lconst (v := 0) F.1 F.2.1 dX8_spoon_37 (by decide) ?_
        refine lv_lstore (lv' := [(4, .long (0 : Int64)), (3, .int (-1 : Int32)), (0, .ref (gz g + a0)), (1, .int a1), (2, .int a2)]) F.1 F.2.1 dX8_spoon_38 hl (by decide) rfl (fun ls hl => ?_)
        refine lv_iconst (v := 0) F.1 F.2.1 dX8_spoon_40 (by decide) ?_
        refine lv_istore (lv' := [(6, .int (0 : Int32)), (4, .long (0 : Int64)), (3, .int (-1 : Int32)), (0, .ref (gz g + a0)), (1, .int a1), (2, .int a2)]) F.1 F.2.1 dX8_spoon_41 hl (by decide) rfl (fun ls hl => ?_)
        obtain ⟨n43, h⟩ := h
        exact hl_43 n43 S _ _ _ a0 a1 a2 (-1 : Int32) (0 : Int64) (0 : Int32) hr_a0 hk_a0 h I (lv_sub hl [3, 4, 5, 2, 1, 0] rfl)
      · refine lv_ldc F.1 F.2.1 F.2.2.2.1 (F.2.2.2.2 _ tw_1248) dX8_spoon_28 ?_
        exact r_ireturn F I ⟨hr.1, hr.2.1, trivial⟩ h dX8_spoon_30
    · exact hj_16 S _ _ _   h I (lv_sub hl [] rfl)
theorem bdX8_fee_0 : ∀ q ∈ ([(0, .aload_n 0, 1), (1, .iconst 1, 1), (2, .invokevirtual 111, 3), (5, .istore_n 1, 1), (6, .aload_n 0, 1), (7, .getfield 48, 3), (10, .iconst 0, 1), (11, .aload_n 0, 1), (12, .getfield 9, 3), (15, .iconst 2, 1), (16, .iaload, 1), (17, .iastore, 1), (18, .aload_n 0, 1), (19, .getfield 48, 3), (22, .iconst 1, 1), (23, .aload_n 0, 1), (24, .getfield 9, 3), (27, .iconst 1, 1), (28, .iaload, 1), (29, .iastore, 1), (30, .iload_n 1, 1), (31, .ifCond .ge 12, 3), (34, .aload_n 0, 1), (35, .getfield 9, 3), (38, .iconst 1, 1), (39, .iaload, 1), (40, .goto 8, 3), (43, .aload_n 0, 1), (44, .iload_n 1, 1), (45, .invokevirtual 114, 3), (48, .ireturn, 1)] : List (Nat × Jvm.ClassFile.Instr × Nat)), decode cX8_fee q.1 = .ok q.2 := chk_ok _ 0 _ rfl (by decide +kernel)
theorem dX8_fee_0 : decode cX8_fee 0 = .ok (.aload_n 0, 1) := bdX8_fee_0 (0, .aload_n 0, 1) (List.mem_of_getElem? (i := 0) rfl)
theorem dX8_fee_1 : decode cX8_fee 1 = .ok (.iconst 1, 1) := bdX8_fee_0 (1, .iconst 1, 1) (List.mem_of_getElem? (i := 1) rfl)
theorem dX8_fee_2 : decode cX8_fee 2 = .ok (.invokevirtual 111, 3) := bdX8_fee_0 (2, .invokevirtual 111, 3) (List.mem_of_getElem? (i := 2) rfl)
theorem dX8_fee_5 : decode cX8_fee 5 = .ok (.istore_n 1, 1) := bdX8_fee_0 (5, .istore_n 1, 1) (List.mem_of_getElem? (i := 3) rfl)
theorem dX8_fee_6 : decode cX8_fee 6 = .ok (.aload_n 0, 1) := bdX8_fee_0 (6, .aload_n 0, 1) (List.mem_of_getElem? (i := 4) rfl)
theorem dX8_fee_7 : decode cX8_fee 7 = .ok (.getfield 48, 3) := bdX8_fee_0 (7, .getfield 48, 3) (List.mem_of_getElem? (i := 5) rfl)
theorem dX8_fee_10 : decode cX8_fee 10 = .ok (.iconst 0, 1) := bdX8_fee_0 (10, .iconst 0, 1) (List.mem_of_getElem? (i := 6) rfl)
theorem dX8_fee_11 : decode cX8_fee 11 = .ok (.aload_n 0, 1) := bdX8_fee_0 (11, .aload_n 0, 1) (List.mem_of_getElem? (i := 7) rfl)
theorem dX8_fee_12 : decode cX8_fee 12 = .ok (.getfield 9, 3) := bdX8_fee_0 (12, .getfield 9, 3) (List.mem_of_getElem? (i := 8) rfl)
theorem dX8_fee_15 : decode cX8_fee 15 = .ok (.iconst 2, 1) := bdX8_fee_0 (15, .iconst 2, 1) (List.mem_of_getElem? (i := 9) rfl)
theorem dX8_fee_16 : decode cX8_fee 16 = .ok (.iaload, 1) := bdX8_fee_0 (16, .iaload, 1) (List.mem_of_getElem? (i := 10) rfl)
theorem dX8_fee_17 : decode cX8_fee 17 = .ok (.iastore, 1) := bdX8_fee_0 (17, .iastore, 1) (List.mem_of_getElem? (i := 11) rfl)
theorem dX8_fee_18 : decode cX8_fee 18 = .ok (.aload_n 0, 1) := bdX8_fee_0 (18, .aload_n 0, 1) (List.mem_of_getElem? (i := 12) rfl)
theorem dX8_fee_19 : decode cX8_fee 19 = .ok (.getfield 48, 3) := bdX8_fee_0 (19, .getfield 48, 3) (List.mem_of_getElem? (i := 13) rfl)
theorem dX8_fee_22 : decode cX8_fee 22 = .ok (.iconst 1, 1) := bdX8_fee_0 (22, .iconst 1, 1) (List.mem_of_getElem? (i := 14) rfl)
theorem dX8_fee_23 : decode cX8_fee 23 = .ok (.aload_n 0, 1) := bdX8_fee_0 (23, .aload_n 0, 1) (List.mem_of_getElem? (i := 15) rfl)
theorem dX8_fee_24 : decode cX8_fee 24 = .ok (.getfield 9, 3) := bdX8_fee_0 (24, .getfield 9, 3) (List.mem_of_getElem? (i := 16) rfl)
theorem dX8_fee_27 : decode cX8_fee 27 = .ok (.iconst 1, 1) := bdX8_fee_0 (27, .iconst 1, 1) (List.mem_of_getElem? (i := 17) rfl)
theorem dX8_fee_28 : decode cX8_fee 28 = .ok (.iaload, 1) := bdX8_fee_0 (28, .iaload, 1) (List.mem_of_getElem? (i := 18) rfl)
theorem dX8_fee_29 : decode cX8_fee 29 = .ok (.iastore, 1) := bdX8_fee_0 (29, .iastore, 1) (List.mem_of_getElem? (i := 19) rfl)
theorem dX8_fee_30 : decode cX8_fee 30 = .ok (.iload_n 1, 1) := bdX8_fee_0 (30, .iload_n 1, 1) (List.mem_of_getElem? (i := 20) rfl)
theorem dX8_fee_31 : decode cX8_fee 31 = .ok (.ifCond .ge 12, 3) := bdX8_fee_0 (31, .ifCond .ge 12, 3) (List.mem_of_getElem? (i := 21) rfl)
theorem dX8_fee_34 : decode cX8_fee 34 = .ok (.aload_n 0, 1) := bdX8_fee_0 (34, .aload_n 0, 1) (List.mem_of_getElem? (i := 22) rfl)
theorem dX8_fee_35 : decode cX8_fee 35 = .ok (.getfield 9, 3) := bdX8_fee_0 (35, .getfield 9, 3) (List.mem_of_getElem? (i := 23) rfl)
theorem dX8_fee_38 : decode cX8_fee 38 = .ok (.iconst 1, 1) := bdX8_fee_0 (38, .iconst 1, 1) (List.mem_of_getElem? (i := 24) rfl)
theorem dX8_fee_39 : decode cX8_fee 39 = .ok (.iaload, 1) := bdX8_fee_0 (39, .iaload, 1) (List.mem_of_getElem? (i := 25) rfl)
theorem dX8_fee_40 : decode cX8_fee 40 = .ok (.goto 8, 3) := bdX8_fee_0 (40, .goto 8, 3) (List.mem_of_getElem? (i := 26) rfl)
theorem dX8_fee_43 : decode cX8_fee 43 = .ok (.aload_n 0, 1) := bdX8_fee_0 (43, .aload_n 0, 1) (List.mem_of_getElem? (i := 27) rfl)
theorem dX8_fee_44 : decode cX8_fee 44 = .ok (.iload_n 1, 1) := bdX8_fee_0 (44, .iload_n 1, 1) (List.mem_of_getElem? (i := 28) rfl)
theorem dX8_fee_45 : decode cX8_fee 45 = .ok (.invokevirtual 114, 3) := bdX8_fee_0 (45, .invokevirtual 114, 3) (List.mem_of_getElem? (i := 29) rfl)
theorem dX8_fee_48 : decode cX8_fee 48 = .ok (.ireturn, 1) := bdX8_fee_0 (48, .ireturn, 1) (List.mem_of_getElem? (i := 30) rfl)
def wpX8_fee (ln : Nat → Nat) (S : HC) (a0 : Nat) (post : Int32 → HC → Prop) : Prop := wpX8_counts ln S a0 (1 : Int32) fun z1 S => dn_ (hR S a0 23) fun b2 => dn_ (hR S a0 0) fun b3 => al_ (ln b3) (2 : Int32) (hI S b3) fun z4 => as_ (ln b2) (0 : Int32) (fun j => sI S b2 j z4) fun S => dn_ (hR S a0 23) fun b5 => dn_ (hR S a0 0) fun b6 => al_ (ln b6) (1 : Int32) (hI S b6) fun z7 => as_ (ln b5) (1 : Int32) (fun j => sI S b5 j z7) fun S => if 0 ≤ z1 then (wpX8_worksOut ln S a0 z1 fun z8 S => post z8 S) else (dn_ (hR S a0 0) fun b9 => al_ (ln b9) (1 : Int32) (hI S b9) fun z10 => post z10 S)
abbrev rmX8_fee : Room := { frames := 2, cells := 0, slots := 0, locals := 47 }
set_option maxHeartbeats 4000000 in
set_option maxRecDepth 100000 in
theorem ctX8_fee {l : Launch} {g : GX} {N : Nat} {ln : Nat → Nat} {S : HC} {a0 : Nat} {post : Int32 → HC → Prop} (hr_a0 : a0 < N) (hk_a0 : kd a0 = 8) (h : wpX8_fee ln S a0 post) : Met l yX8_fee (Cond.code yX8_fee prog_10_method_52_code 2 (Option.some Jvm.ClassFile.FieldType.int) :: gtbl) rmX8_fee (va_Pc [.ref (gz g + a0)] (AtP g N ln S)) (QI g N ln post) 0 0 (gF g) := by
  refine m_of (by decide) (Nat.le_of_ble_eq_true rfl) ?_
  intro p e s m below meth c ls F hr I hl
  have hl : lv_has ls 2 [(0, .ref (gz g + a0))] := hl
  unfold wpX8_fee at h
  refine lv_aload_n F.1 F.2.1 dX8_fee_0 rfl (lv_at hl 0 rfl) ?_
  refine lv_iconst (v := 1) F.1 F.2.1 dX8_fee_1 (by decide) ?_
  refine g_I I (run_V (As := [.int (1 : Int32)]) (rest := []) F I hr_a0 hk_a0 (by decide) kX8_111 (ctX8_counts hr_a0 hk_a0 h) ⟨rfl, rfl⟩ ⟨Nat.le_of_ble_eq_true rfl, Nat.le_of_ble_eq_true rfl⟩ rfl hl.1 rfl (Nat.le_of_ble_eq_true rfl) ⟨Nat.le_of_ble_eq_true rfl, Nat.le_of_ble_eq_true rfl⟩ dX8_fee_2) (fun z1 S H locs I h => ?_)
  refine lv_istore_n (lv' := [(1, .int z1), (0, .ref (gz g + a0))]) F.1 F.2.1 dX8_fee_5 rfl hl (by decide) rfl (fun ls hl => ?_)
  refine lv_aload_n F.1 F.2.1 dX8_fee_6 rfl (lv_at hl 1 rfl) ?_
  refine r_getN F I hr_a0 hk_a0 fX8_48 (f := 9) rfl (by decide) dX8_fee_7 h (fun b2 hr_b2 hk_b2 h => ?_)
  refine lv_iconst (v := 0) F.1 F.2.1 dX8_fee_10 (by decide) ?_
  refine lv_aload_n F.1 F.2.1 dX8_fee_11 rfl (lv_at hl 1 rfl) ?_
  refine r_getN F I hr_a0 hk_a0 fX8_9 (f := 9) rfl (by decide) dX8_fee_12 h (fun b3 hr_b3 hk_b3 h => ?_)
  refine lv_iconst (v := 2) F.1 F.2.1 dX8_fee_15 (by decide) ?_
  refine r_ald F I hr_b3 hk_b3 dX8_fee_16 h (fun z4 h => ?_)
  refine r_ast F I hr_b2 hk_b2 dX8_fee_17 h (fun S H locs I h => ?_)
  refine lv_aload_n F.1 F.2.1 dX8_fee_18 rfl (lv_at hl 1 rfl) ?_
  refine r_getN F I hr_a0 hk_a0 fX8_48 (f := 9) rfl (by decide) dX8_fee_19 h (fun b5 hr_b5 hk_b5 h => ?_)
  refine lv_iconst (v := 1) F.1 F.2.1 dX8_fee_22 (by decide) ?_
  refine lv_aload_n F.1 F.2.1 dX8_fee_23 rfl (lv_at hl 1 rfl) ?_
  refine r_getN F I hr_a0 hk_a0 fX8_9 (f := 9) rfl (by decide) dX8_fee_24 h (fun b6 hr_b6 hk_b6 h => ?_)
  refine lv_iconst (v := 1) F.1 F.2.1 dX8_fee_27 (by decide) ?_
  refine r_ald F I hr_b6 hk_b6 dX8_fee_28 h (fun z7 h => ?_)
  refine r_ast F I hr_b5 hk_b5 dX8_fee_29 h (fun S H locs I h => ?_)
  refine lv_iload_n F.1 F.2.1 dX8_fee_30 rfl (lv_at hl 0 rfl) ?_
  refine r_if_ge (tgt := 43) F dX8_fee_31 (by decide) h (fun h => ?_) (fun h => ?_)
  · refine lv_aload_n F.1 F.2.1 dX8_fee_43 rfl (lv_at hl 1 rfl) ?_
    refine lv_iload_n F.1 F.2.1 dX8_fee_44 rfl (lv_at hl 0 rfl) ?_
    refine g_I I (run_V (As := [.int z1]) (rest := []) F I hr_a0 hk_a0 (by decide) kX8_114 (ctX8_worksOut hr_a0 hk_a0 h) ⟨rfl, rfl⟩ ⟨Nat.le_of_ble_eq_true rfl, Nat.le_of_ble_eq_true rfl⟩ rfl hl.1 rfl (Nat.le_of_ble_eq_true rfl) ⟨Nat.le_of_ble_eq_true rfl, Nat.le_of_ble_eq_true rfl⟩ dX8_fee_45) (fun z8 S H locs I h => ?_)
    exact r_ireturn F I ⟨hr.1, hr.2.1, trivial⟩ h dX8_fee_48
  · refine lv_aload_n F.1 F.2.1 dX8_fee_34 rfl (lv_at hl 1 rfl) ?_
    refine r_getN F I hr_a0 hk_a0 fX8_9 (f := 9) rfl (by decide) dX8_fee_35 h (fun b9 hr_b9 hk_b9 h => ?_)
    refine lv_iconst (v := 1) F.1 F.2.1 dX8_fee_38 (by decide) ?_
    refine r_ald F I hr_b9 hk_b9 dX8_fee_39 h (fun z10 h => ?_)
    refine lv_goto (tgt := 48) F.1 F.2.1 dX8_fee_40 (by decide) ?_
    exact r_ireturn F I ⟨hr.1, hr.2.1, trivial⟩ h dX8_fee_48
theorem bdX8_fine_0 : ∀ q ∈ ([(0, .aload_n 0, 1), (1, .iload_n 1, 1), (2, .invokevirtual 83, 3), (5, .ifCond .ne 6, 3), (8, .ldc 98, 2), (10, .ireturn, 1), (11, .aload_n 0, 1), (12, .iconst 2, 1), (13, .invokevirtual 111, 3), (16, .istore_n 2, 1), (17, .iconst 0, 1), (18, .istore_n 3, 1), (19, .iconst 0, 1), (20, .istore 4, 2), (22, .iload 4, 2), (24, .bipush 8, 2), (26, .if_icmp .ge 23, 3), (29, .iload_n 3, 1), (30, .aload_n 0, 1), (31, .iload_n 1, 1), (32, .iconst 5, 1), (33, .invokevirtual 87, 3), (36, .iload 4, 2), (39, .iconst 1, 1), (40, .iand, 1), (41, .iadd, 1), (42, .istore_n 3, 1), (43, .iinc 4 1, 3), (46, .goto (-24), 3), (49, .aload_n 0, 1), (50, .getfield 48, 3), (53, .iconst 0, 1), (54, .aload_n 0, 1), (55, .iload_n 1, 1), (56, .iconst 4, 1), (57, .invokevirtual 87, 3), (60, .iastore, 1), (61, .aload_n 0, 1), (62, .getfield 48, 3), (65, .iconst 1, 1)] : List (Nat × Jvm.ClassFile.Instr × Nat)), decode cX8_fine q.1 = .ok q.2 := chk_ok _ 0 _ rfl (by decide +kernel)
theorem dX8_fine_0 : decode cX8_fine 0 = .ok (.aload_n 0, 1) := bdX8_fine_0 (0, .aload_n 0, 1) (List.mem_of_getElem? (i := 0) rfl)
theorem dX8_fine_1 : decode cX8_fine 1 = .ok (.iload_n 1, 1) := bdX8_fine_0 (1, .iload_n 1, 1) (List.mem_of_getElem? (i := 1) rfl)
theorem dX8_fine_2 : decode cX8_fine 2 = .ok (.invokevirtual 83, 3) := bdX8_fine_0 (2, .invokevirtual 83, 3) (List.mem_of_getElem? (i := 2) rfl)
theorem dX8_fine_5 : decode cX8_fine 5 = .ok (.ifCond .ne 6, 3) := bdX8_fine_0 (5, .ifCond .ne 6, 3) (List.mem_of_getElem? (i := 3) rfl)
theorem dX8_fine_8 : decode cX8_fine 8 = .ok (.ldc 98, 2) := bdX8_fine_0 (8, .ldc 98, 2) (List.mem_of_getElem? (i := 4) rfl)
theorem dX8_fine_10 : decode cX8_fine 10 = .ok (.ireturn, 1) := bdX8_fine_0 (10, .ireturn, 1) (List.mem_of_getElem? (i := 5) rfl)
theorem dX8_fine_11 : decode cX8_fine 11 = .ok (.aload_n 0, 1) := bdX8_fine_0 (11, .aload_n 0, 1) (List.mem_of_getElem? (i := 6) rfl)
theorem dX8_fine_12 : decode cX8_fine 12 = .ok (.iconst 2, 1) := bdX8_fine_0 (12, .iconst 2, 1) (List.mem_of_getElem? (i := 7) rfl)
theorem dX8_fine_13 : decode cX8_fine 13 = .ok (.invokevirtual 111, 3) := bdX8_fine_0 (13, .invokevirtual 111, 3) (List.mem_of_getElem? (i := 8) rfl)
theorem dX8_fine_16 : decode cX8_fine 16 = .ok (.istore_n 2, 1) := bdX8_fine_0 (16, .istore_n 2, 1) (List.mem_of_getElem? (i := 9) rfl)
theorem dX8_fine_17 : decode cX8_fine 17 = .ok (.iconst 0, 1) := bdX8_fine_0 (17, .iconst 0, 1) (List.mem_of_getElem? (i := 10) rfl)
theorem dX8_fine_18 : decode cX8_fine 18 = .ok (.istore_n 3, 1) := bdX8_fine_0 (18, .istore_n 3, 1) (List.mem_of_getElem? (i := 11) rfl)
theorem dX8_fine_19 : decode cX8_fine 19 = .ok (.iconst 0, 1) := bdX8_fine_0 (19, .iconst 0, 1) (List.mem_of_getElem? (i := 12) rfl)
theorem dX8_fine_20 : decode cX8_fine 20 = .ok (.istore 4, 2) := bdX8_fine_0 (20, .istore 4, 2) (List.mem_of_getElem? (i := 13) rfl)
theorem dX8_fine_22 : decode cX8_fine 22 = .ok (.iload 4, 2) := bdX8_fine_0 (22, .iload 4, 2) (List.mem_of_getElem? (i := 14) rfl)
theorem dX8_fine_24 : decode cX8_fine 24 = .ok (.bipush 8, 2) := bdX8_fine_0 (24, .bipush 8, 2) (List.mem_of_getElem? (i := 15) rfl)
theorem dX8_fine_26 : decode cX8_fine 26 = .ok (.if_icmp .ge 23, 3) := bdX8_fine_0 (26, .if_icmp .ge 23, 3) (List.mem_of_getElem? (i := 16) rfl)
theorem dX8_fine_29 : decode cX8_fine 29 = .ok (.iload_n 3, 1) := bdX8_fine_0 (29, .iload_n 3, 1) (List.mem_of_getElem? (i := 17) rfl)
theorem dX8_fine_30 : decode cX8_fine 30 = .ok (.aload_n 0, 1) := bdX8_fine_0 (30, .aload_n 0, 1) (List.mem_of_getElem? (i := 18) rfl)
theorem dX8_fine_31 : decode cX8_fine 31 = .ok (.iload_n 1, 1) := bdX8_fine_0 (31, .iload_n 1, 1) (List.mem_of_getElem? (i := 19) rfl)
theorem dX8_fine_32 : decode cX8_fine 32 = .ok (.iconst 5, 1) := bdX8_fine_0 (32, .iconst 5, 1) (List.mem_of_getElem? (i := 20) rfl)
theorem dX8_fine_33 : decode cX8_fine 33 = .ok (.invokevirtual 87, 3) := bdX8_fine_0 (33, .invokevirtual 87, 3) (List.mem_of_getElem? (i := 21) rfl)
theorem dX8_fine_36 : decode cX8_fine 36 = .ok (.iload 4, 2) := bdX8_fine_0 (36, .iload 4, 2) (List.mem_of_getElem? (i := 22) rfl)
theorem dX8_fine_39 : decode cX8_fine 39 = .ok (.iconst 1, 1) := bdX8_fine_0 (39, .iconst 1, 1) (List.mem_of_getElem? (i := 23) rfl)
theorem dX8_fine_40 : decode cX8_fine 40 = .ok (.iand, 1) := bdX8_fine_0 (40, .iand, 1) (List.mem_of_getElem? (i := 24) rfl)
theorem dX8_fine_41 : decode cX8_fine 41 = .ok (.iadd, 1) := bdX8_fine_0 (41, .iadd, 1) (List.mem_of_getElem? (i := 25) rfl)
theorem dX8_fine_42 : decode cX8_fine 42 = .ok (.istore_n 3, 1) := bdX8_fine_0 (42, .istore_n 3, 1) (List.mem_of_getElem? (i := 26) rfl)
theorem dX8_fine_43 : decode cX8_fine 43 = .ok (.iinc 4 1, 3) := bdX8_fine_0 (43, .iinc 4 1, 3) (List.mem_of_getElem? (i := 27) rfl)
theorem dX8_fine_46 : decode cX8_fine 46 = .ok (.goto (-24), 3) := bdX8_fine_0 (46, .goto (-24), 3) (List.mem_of_getElem? (i := 28) rfl)
theorem dX8_fine_49 : decode cX8_fine 49 = .ok (.aload_n 0, 1) := bdX8_fine_0 (49, .aload_n 0, 1) (List.mem_of_getElem? (i := 29) rfl)
theorem dX8_fine_50 : decode cX8_fine 50 = .ok (.getfield 48, 3) := bdX8_fine_0 (50, .getfield 48, 3) (List.mem_of_getElem? (i := 30) rfl)
theorem dX8_fine_53 : decode cX8_fine 53 = .ok (.iconst 0, 1) := bdX8_fine_0 (53, .iconst 0, 1) (List.mem_of_getElem? (i := 31) rfl)
theorem dX8_fine_54 : decode cX8_fine 54 = .ok (.aload_n 0, 1) := bdX8_fine_0 (54, .aload_n 0, 1) (List.mem_of_getElem? (i := 32) rfl)
theorem dX8_fine_55 : decode cX8_fine 55 = .ok (.iload_n 1, 1) := bdX8_fine_0 (55, .iload_n 1, 1) (List.mem_of_getElem? (i := 33) rfl)
theorem dX8_fine_56 : decode cX8_fine 56 = .ok (.iconst 4, 1) := bdX8_fine_0 (56, .iconst 4, 1) (List.mem_of_getElem? (i := 34) rfl)
theorem dX8_fine_57 : decode cX8_fine 57 = .ok (.invokevirtual 87, 3) := bdX8_fine_0 (57, .invokevirtual 87, 3) (List.mem_of_getElem? (i := 35) rfl)
theorem dX8_fine_60 : decode cX8_fine 60 = .ok (.iastore, 1) := bdX8_fine_0 (60, .iastore, 1) (List.mem_of_getElem? (i := 36) rfl)
theorem dX8_fine_61 : decode cX8_fine 61 = .ok (.aload_n 0, 1) := bdX8_fine_0 (61, .aload_n 0, 1) (List.mem_of_getElem? (i := 37) rfl)
theorem dX8_fine_62 : decode cX8_fine 62 = .ok (.getfield 48, 3) := bdX8_fine_0 (62, .getfield 48, 3) (List.mem_of_getElem? (i := 38) rfl)
theorem dX8_fine_65 : decode cX8_fine 65 = .ok (.iconst 1, 1) := bdX8_fine_0 (65, .iconst 1, 1) (List.mem_of_getElem? (i := 39) rfl)
theorem bdX8_fine_66 : ∀ q ∈ ([(66, .iload_n 3, 1), (67, .iastore, 1), (68, .iload_n 2, 1), (69, .ifCond .ge 12, 3), (72, .aload_n 0, 1), (73, .iload_n 1, 1), (74, .iconst 4, 1), (75, .invokevirtual 87, 3), (78, .goto 8, 3), (81, .aload_n 0, 1), (82, .iload_n 2, 1), (83, .invokevirtual 114, 3), (86, .ireturn, 1)] : List (Nat × Jvm.ClassFile.Instr × Nat)), decode cX8_fine q.1 = .ok q.2 := chk_ok _ 66 _ rfl (by decide +kernel)
theorem dX8_fine_66 : decode cX8_fine 66 = .ok (.iload_n 3, 1) := bdX8_fine_66 (66, .iload_n 3, 1) (List.mem_of_getElem? (i := 0) rfl)
theorem dX8_fine_67 : decode cX8_fine 67 = .ok (.iastore, 1) := bdX8_fine_66 (67, .iastore, 1) (List.mem_of_getElem? (i := 1) rfl)
theorem dX8_fine_68 : decode cX8_fine 68 = .ok (.iload_n 2, 1) := bdX8_fine_66 (68, .iload_n 2, 1) (List.mem_of_getElem? (i := 2) rfl)
theorem dX8_fine_69 : decode cX8_fine 69 = .ok (.ifCond .ge 12, 3) := bdX8_fine_66 (69, .ifCond .ge 12, 3) (List.mem_of_getElem? (i := 3) rfl)
theorem dX8_fine_72 : decode cX8_fine 72 = .ok (.aload_n 0, 1) := bdX8_fine_66 (72, .aload_n 0, 1) (List.mem_of_getElem? (i := 4) rfl)
theorem dX8_fine_73 : decode cX8_fine 73 = .ok (.iload_n 1, 1) := bdX8_fine_66 (73, .iload_n 1, 1) (List.mem_of_getElem? (i := 5) rfl)
theorem dX8_fine_74 : decode cX8_fine 74 = .ok (.iconst 4, 1) := bdX8_fine_66 (74, .iconst 4, 1) (List.mem_of_getElem? (i := 6) rfl)
theorem dX8_fine_75 : decode cX8_fine 75 = .ok (.invokevirtual 87, 3) := bdX8_fine_66 (75, .invokevirtual 87, 3) (List.mem_of_getElem? (i := 7) rfl)
theorem dX8_fine_78 : decode cX8_fine 78 = .ok (.goto 8, 3) := bdX8_fine_66 (78, .goto 8, 3) (List.mem_of_getElem? (i := 8) rfl)
theorem dX8_fine_81 : decode cX8_fine 81 = .ok (.aload_n 0, 1) := bdX8_fine_66 (81, .aload_n 0, 1) (List.mem_of_getElem? (i := 9) rfl)
theorem dX8_fine_82 : decode cX8_fine 82 = .ok (.iload_n 2, 1) := bdX8_fine_66 (82, .iload_n 2, 1) (List.mem_of_getElem? (i := 10) rfl)
theorem dX8_fine_83 : decode cX8_fine 83 = .ok (.invokevirtual 114, 3) := bdX8_fine_66 (83, .invokevirtual 114, 3) (List.mem_of_getElem? (i := 11) rfl)
theorem dX8_fine_86 : decode cX8_fine 86 = .ok (.ireturn, 1) := bdX8_fine_66 (86, .ireturn, 1) (List.mem_of_getElem? (i := 12) rfl)
theorem dX8_fine_38 : decode cX8_fine 38 = .ok (.ishr, 1) := by decide +kernel
def LX8_fine_22 (ln : Nat → Nat) (post : Int32 → HC → Prop) : Nat → HC → Nat → Int32 → Int32 → Int32 → Int32 → Prop
  | 0 => fun _ _ _ _ _ _ => False
  | n22 + 1 => fun S x0 x1 x2 x3 x4 => if (8 : Int32) ≤ x4 then (dn_ (hR S x0 23) fun b1 => wpX8_of ln S x0 x1 (4 : Int32) fun z2 S => as_ (ln b1) (0 : Int32) (fun j => sI S b1 j z2) fun S => dn_ (hR S x0 23) fun b3 => as_ (ln b3) (1 : Int32) (fun j => sI S b3 j x3) fun S => if 0 ≤ x2 then (wpX8_worksOut ln S x0 x2 fun z4 S => post z4 S) else (wpX8_of ln S x0 x1 (4 : Int32) fun z5 S => post z5 S)) else (wpX8_of ln S x0 x1 (5 : Int32) fun z6 S => lt_ (z6 >>> (x4 &&& 31)) fun z7 => lt_ (z7 &&& (1 : Int32)) fun z8 => lt_ (x3 + z8) fun z9 => lt_ (x4 + (1 : Int32)) fun z10 => (LX8_fine_22 ln post n22) S x0 x1 x2 z9 z10)
def wpX8_fine (ln : Nat → Nat) (S : HC) (a0 : Nat) (a1 : Int32) (post : Int32 → HC → Prop) : Prop := wpX8_isOne ln S a0 a1 fun z11 S => if z11 = 0 then (post (-1000000001 : Int32) S) else (wpX8_counts ln S a0 (2 : Int32) fun z12 S => ∃ n22, LX8_fine_22 ln post n22 S a0 a1 z12 (0 : Int32) (0 : Int32))
abbrev rmX8_fine : Room := { frames := 2, cells := 0, slots := 0, locals := 47 }
set_option maxHeartbeats 4000000 in
set_option maxRecDepth 100000 in
theorem ctX8_fine {l : Launch} {g : GX} {N : Nat} {ln : Nat → Nat} {S : HC} {a0 : Nat} {a1 : Int32} {post : Int32 → HC → Prop} (hr_a0 : a0 < N) (hk_a0 : kd a0 = 8) (h : wpX8_fine ln S a0 a1 post) : Met l yX8_fine (Cond.code yX8_fine prog_10_method_53_code 5 (Option.some Jvm.ClassFile.FieldType.int) :: gtbl) rmX8_fine (va_Pc [.ref (gz g + a0), .int a1] (AtP g N ln S)) (QI g N ln post) 0 0 (gF g) := by
  refine m_of (by decide) (Nat.le_of_ble_eq_true rfl) ?_
  intro p e s m below meth c ls F hr I hl
  have hl : lv_has ls 5 [(0, .ref (gz g + a0)), (1, .int a1)] := hl
  unfold wpX8_fine at h
  have hl_22 : ∀ n22 : Nat, ∀ (S : HC) (H : Heap) (locs : List Loc) (ls : Array Slot) (x0 : Nat) (x1 : Int32) (x2 : Int32) (x3 : Int32) (x4 : Int32), x0 < N → kd x0 = 8 → LX8_fine_22 ln post n22 S x0 x1 x2 x3 x4 → Inv g N ln S s H locs → lv_has ls 5 [(0, .ref (gz g + x0)), (1, .int x1), (2, .int x2), (3, .int x3), (4, .int x4)] → W p l e rmX8_fine s m ([.ref (gz g + a0), .int a1] : List Value).toArray below meth c H locs 0 0 (MQ below (QI g N ln post) ([.ref (gz g + a0), .int a1] : List Value).toArray s 0 0 (gF g)) (F0 m 22 ls []) := by
    intro n22
    induction n22 with
    | zero =>
      intro S H locs ls x0 x1 x2 x3 x4 hr_x0 hk_x0 h I hl
      exact h.elim
    | succ n22 ih =>
      have hk22 := ih
      intro S H locs ls x0 x1 x2 x3 x4 hr_x0 hk_x0 h I hl
      rw [LX8_fine_22] at h
      refine lv_iload F.1 F.2.1 dX8_fine_22 (lv_at hl 4 rfl) ?_
      refine lv_bipush (v := 8) F.1 F.2.1 dX8_fine_24 (by decide) ?_
      refine r_icmp_ge (tgt := 49) F dX8_fine_26 (by decide) h (fun h => ?_) (fun h => ?_)
      · refine lv_aload_n F.1 F.2.1 dX8_fine_49 rfl (lv_at hl 0 rfl) ?_
        refine r_getN F I hr_x0 hk_x0 fX8_48 (f := 9) rfl (by decide) dX8_fine_50 h (fun b1 hr_b1 hk_b1 h => ?_)
        refine lv_iconst (v := 0) F.1 F.2.1 dX8_fine_53 (by decide) ?_
        refine lv_aload_n F.1 F.2.1 dX8_fine_54 rfl (lv_at hl 0 rfl) ?_
        refine lv_iload_n F.1 F.2.1 dX8_fine_55 rfl (lv_at hl 1 rfl) ?_
        refine lv_iconst (v := 4) F.1 F.2.1 dX8_fine_56 (by decide) ?_
        refine g_I I (run_V (As := [.int x1, .int (4 : Int32)]) (rest := [.int (0 : Int32), .ref (gz g + b1)]) F I hr_x0 hk_x0 (by decide) kX8_87 (ctX8_of hr_x0 hk_x0 h) ⟨rfl, rfl⟩ ⟨Nat.le_of_ble_eq_true rfl, Nat.le_of_ble_eq_true rfl⟩ rfl hl.1 rfl (Nat.le_of_ble_eq_true rfl) ⟨Nat.le_of_ble_eq_true rfl, Nat.le_of_ble_eq_true rfl⟩ dX8_fine_57) (fun z2 S H locs I h => ?_)
        refine r_ast F I hr_b1 hk_b1 dX8_fine_60 h (fun S H locs I h => ?_)
        refine lv_aload_n F.1 F.2.1 dX8_fine_61 rfl (lv_at hl 0 rfl) ?_
        refine r_getN F I hr_x0 hk_x0 fX8_48 (f := 9) rfl (by decide) dX8_fine_62 h (fun b3 hr_b3 hk_b3 h => ?_)
        refine lv_iconst (v := 1) F.1 F.2.1 dX8_fine_65 (by decide) ?_
        refine lv_iload_n F.1 F.2.1 dX8_fine_66 rfl (lv_at hl 3 rfl) ?_
        refine r_ast F I hr_b3 hk_b3 dX8_fine_67 h (fun S H locs I h => ?_)
        refine lv_iload_n F.1 F.2.1 dX8_fine_68 rfl (lv_at hl 2 rfl) ?_
        refine r_if_ge (tgt := 81) F dX8_fine_69 (by decide) h (fun h => ?_) (fun h => ?_)
        · refine lv_aload_n F.1 F.2.1 dX8_fine_81 rfl (lv_at hl 0 rfl) ?_
          refine lv_iload_n F.1 F.2.1 dX8_fine_82 rfl (lv_at hl 2 rfl) ?_
          refine g_I I (run_V (As := [.int x2]) (rest := []) F I hr_x0 hk_x0 (by decide) kX8_114 (ctX8_worksOut hr_x0 hk_x0 h) ⟨rfl, rfl⟩ ⟨Nat.le_of_ble_eq_true rfl, Nat.le_of_ble_eq_true rfl⟩ rfl hl.1 rfl (Nat.le_of_ble_eq_true rfl) ⟨Nat.le_of_ble_eq_true rfl, Nat.le_of_ble_eq_true rfl⟩ dX8_fine_83) (fun z4 S H locs I h => ?_)
          exact r_ireturn F I ⟨hr.1, hr.2.1, trivial⟩ h dX8_fine_86
        · refine lv_aload_n F.1 F.2.1 dX8_fine_72 rfl (lv_at hl 0 rfl) ?_
          refine lv_iload_n F.1 F.2.1 dX8_fine_73 rfl (lv_at hl 1 rfl) ?_
          refine lv_iconst (v := 4) F.1 F.2.1 dX8_fine_74 (by decide) ?_
          refine g_I I (run_V (As := [.int x1, .int (4 : Int32)]) (rest := []) F I hr_x0 hk_x0 (by decide) kX8_87 (ctX8_of hr_x0 hk_x0 h) ⟨rfl, rfl⟩ ⟨Nat.le_of_ble_eq_true rfl, Nat.le_of_ble_eq_true rfl⟩ rfl hl.1 rfl (Nat.le_of_ble_eq_true rfl) ⟨Nat.le_of_ble_eq_true rfl, Nat.le_of_ble_eq_true rfl⟩ dX8_fine_75) (fun z5 S H locs I h => ?_)
          refine lv_goto (tgt := 86) F.1 F.2.1 dX8_fine_78 (by decide) ?_
          exact r_ireturn F I ⟨hr.1, hr.2.1, trivial⟩ h dX8_fine_86
      · refine lv_iload_n F.1 F.2.1 dX8_fine_29 rfl (lv_at hl 3 rfl) ?_
        refine lv_aload_n F.1 F.2.1 dX8_fine_30 rfl (lv_at hl 0 rfl) ?_
        refine lv_iload_n F.1 F.2.1 dX8_fine_31 rfl (lv_at hl 1 rfl) ?_
        refine lv_iconst (v := 5) F.1 F.2.1 dX8_fine_32 (by decide) ?_
        refine g_I I (run_V (As := [.int x1, .int (5 : Int32)]) (rest := [.int x3]) F I hr_x0 hk_x0 (by decide) kX8_87 (ctX8_of hr_x0 hk_x0 h) ⟨rfl, rfl⟩ ⟨Nat.le_of_ble_eq_true rfl, Nat.le_of_ble_eq_true rfl⟩ rfl hl.1 rfl (Nat.le_of_ble_eq_true rfl) ⟨Nat.le_of_ble_eq_true rfl, Nat.le_of_ble_eq_true rfl⟩ dX8_fine_33) (fun z6 S H locs I h => ?_)
        refine lv_iload F.1 F.2.1 dX8_fine_36 (lv_at hl 4 rfl) ?_
        refine r_ishr F dX8_fine_38 h (fun z7 h => ?_)
        refine lv_iconst (v := 1) F.1 F.2.1 dX8_fine_39 (by decide) ?_
        refine r_iand F dX8_fine_40 h (fun z8 h => ?_)
        refine r_iadd F dX8_fine_41 h (fun z9 h => ?_)
        refine lv_istore_n (lv' := [(3, .int z9), (0, .ref (gz g + x0)), (1, .int x1), (2, .int x2), (4, .int x4)]) F.1 F.2.1 dX8_fine_42 rfl hl (by decide) rfl (fun ls hl => ?_)
        obtain ⟨z10, e_z10, h⟩ := lt_x h
        refine lv_iinc (v := z10) (lv' := [(4, .int z10), (3, .int z9), (0, .ref (gz g + x0)), (1, .int x1), (2, .int x2)]) F.1 F.2.1 dX8_fine_43 hl (k := 4) rfl (by rw [e_z10]; rfl) (by decide) rfl (fun ls hl => ?_)
        refine lv_goto (tgt := 22) F.1 F.2.1 dX8_fine_46 (by decide) ?_
        exact hk22 S _ _ _ x0 x1 x2 z9 z10 hr_x0 hk_x0 h I (lv_sub hl [2, 3, 4, 1, 0] rfl)
  refine lv_aload_n F.1 F.2.1 dX8_fine_0 rfl (lv_at hl 0 rfl) ?_
  refine lv_iload_n F.1 F.2.1 dX8_fine_1 rfl (lv_at hl 1 rfl) ?_
  refine g_I I (run_V (As := [.int a1]) (rest := []) F I hr_a0 hk_a0 (by decide) kX8_83 (ctX8_isOne hr_a0 hk_a0 h) ⟨rfl, rfl⟩ ⟨Nat.le_of_ble_eq_true rfl, Nat.le_of_ble_eq_true rfl⟩ rfl hl.1 rfl (Nat.le_of_ble_eq_true rfl) ⟨Nat.le_of_ble_eq_true rfl, Nat.le_of_ble_eq_true rfl⟩ dX8_fine_2) (fun z11 S H locs I h => ?_)
  refine r_if_ne (tgt := 11) F dX8_fine_5 (by decide) h (fun h => ?_) (fun h => ?_)
  · refine lv_aload_n F.1 F.2.1 dX8_fine_11 rfl (lv_at hl 0 rfl) ?_
    refine lv_iconst (v := 2) F.1 F.2.1 dX8_fine_12 (by decide) ?_
    refine g_I I (run_V (As := [.int (2 : Int32)]) (rest := []) F I hr_a0 hk_a0 (by decide) kX8_111 (ctX8_counts hr_a0 hk_a0 h) ⟨rfl, rfl⟩ ⟨Nat.le_of_ble_eq_true rfl, Nat.le_of_ble_eq_true rfl⟩ rfl hl.1 rfl (Nat.le_of_ble_eq_true rfl) ⟨Nat.le_of_ble_eq_true rfl, Nat.le_of_ble_eq_true rfl⟩ dX8_fine_13) (fun z12 S H locs I h => ?_)
    refine lv_istore_n (lv' := [(2, .int z12), (0, .ref (gz g + a0)), (1, .int a1)]) F.1 F.2.1 dX8_fine_16 rfl hl (by decide) rfl (fun ls hl => ?_)
    refine lv_iconst (v := 0) F.1 F.2.1 dX8_fine_17 (by decide) ?_
    refine lv_istore_n (lv' := [(3, .int (0 : Int32)), (2, .int z12), (0, .ref (gz g + a0)), (1, .int a1)]) F.1 F.2.1 dX8_fine_18 rfl hl (by decide) rfl (fun ls hl => ?_)
    refine lv_iconst (v := 0) F.1 F.2.1 dX8_fine_19 (by decide) ?_
    refine lv_istore (lv' := [(4, .int (0 : Int32)), (3, .int (0 : Int32)), (2, .int z12), (0, .ref (gz g + a0)), (1, .int a1)]) F.1 F.2.1 dX8_fine_20 hl (by decide) rfl (fun ls hl => ?_)
    obtain ⟨n22, h⟩ := h
    exact hl_22 n22 S _ _ _ a0 a1 z12 (0 : Int32) (0 : Int32) hr_a0 hk_a0 h I (lv_sub hl [3, 4, 2, 1, 0] rfl)
  · refine lv_ldc F.1 F.2.1 F.2.2.2.1 (F.2.2.2.2 _ tw_1064) dX8_fine_8 ?_
    exact r_ireturn F I ⟨hr.1, hr.2.1, trivial⟩ h dX8_fine_10
theorem bdX8_feed_0 : ∀ q ∈ ([(0, .aload_n 0, 1), (1, .getfield 190, 3), (4, .bipush 12, 2), (6, .iadd, 1), (7, .bipush 96, 2), (9, .if_icmp .le 6, 3), (12, .ldc 99, 2), (14, .ireturn, 1), (15, .iconst 0, 1), (16, .istore 4, 2), (18, .iload 4, 2), (20, .bipush 12, 2), (22, .if_icmp .ge 62, 3), (25, .iload 4, 2), (27, .iconst 4, 1), (28, .if_icmp .ge 7, 3), (31, .iload_n 1, 1), (32, .goto 15, 3), (35, .iload 4, 2), (37, .bipush 8, 2), (39, .if_icmp .ge 7, 3), (42, .iload_n 2, 1), (43, .goto 4, 3), (46, .iload_n 3, 1), (47, .istore 5, 2), (49, .aload_n 0, 1), (50, .getfield 25, 3), (53, .aload_n 0, 1), (54, .getfield 190, 3), (57, .iload 4, 2), (59, .iadd, 1), (60, .iload 5, 2), (62, .bipush 24, 2), (64, .bipush 8, 2), (66, .iload 4, 2), (68, .iconst 4, 1), (69, .irem, 1), (70, .imul, 1), (71, .isub, 1), (73, .sipush 255, 3)] : List (Nat × Jvm.ClassFile.Instr × Nat)), decode cX8_feed q.1 = .ok q.2 := chk_ok _ 0 _ rfl (by decide +kernel)
theorem dX8_feed_0 : decode cX8_feed 0 = .ok (.aload_n 0, 1) := bdX8_feed_0 (0, .aload_n 0, 1) (List.mem_of_getElem? (i := 0) rfl)
theorem dX8_feed_1 : decode cX8_feed 1 = .ok (.getfield 190, 3) := bdX8_feed_0 (1, .getfield 190, 3) (List.mem_of_getElem? (i := 1) rfl)
theorem dX8_feed_4 : decode cX8_feed 4 = .ok (.bipush 12, 2) := bdX8_feed_0 (4, .bipush 12, 2) (List.mem_of_getElem? (i := 2) rfl)
theorem dX8_feed_6 : decode cX8_feed 6 = .ok (.iadd, 1) := bdX8_feed_0 (6, .iadd, 1) (List.mem_of_getElem? (i := 3) rfl)
theorem dX8_feed_7 : decode cX8_feed 7 = .ok (.bipush 96, 2) := bdX8_feed_0 (7, .bipush 96, 2) (List.mem_of_getElem? (i := 4) rfl)
theorem dX8_feed_9 : decode cX8_feed 9 = .ok (.if_icmp .le 6, 3) := bdX8_feed_0 (9, .if_icmp .le 6, 3) (List.mem_of_getElem? (i := 5) rfl)
theorem dX8_feed_12 : decode cX8_feed 12 = .ok (.ldc 99, 2) := bdX8_feed_0 (12, .ldc 99, 2) (List.mem_of_getElem? (i := 6) rfl)
theorem dX8_feed_14 : decode cX8_feed 14 = .ok (.ireturn, 1) := bdX8_feed_0 (14, .ireturn, 1) (List.mem_of_getElem? (i := 7) rfl)
theorem dX8_feed_15 : decode cX8_feed 15 = .ok (.iconst 0, 1) := bdX8_feed_0 (15, .iconst 0, 1) (List.mem_of_getElem? (i := 8) rfl)
theorem dX8_feed_16 : decode cX8_feed 16 = .ok (.istore 4, 2) := bdX8_feed_0 (16, .istore 4, 2) (List.mem_of_getElem? (i := 9) rfl)
theorem dX8_feed_18 : decode cX8_feed 18 = .ok (.iload 4, 2) := bdX8_feed_0 (18, .iload 4, 2) (List.mem_of_getElem? (i := 10) rfl)
theorem dX8_feed_20 : decode cX8_feed 20 = .ok (.bipush 12, 2) := bdX8_feed_0 (20, .bipush 12, 2) (List.mem_of_getElem? (i := 11) rfl)
theorem dX8_feed_22 : decode cX8_feed 22 = .ok (.if_icmp .ge 62, 3) := bdX8_feed_0 (22, .if_icmp .ge 62, 3) (List.mem_of_getElem? (i := 12) rfl)
theorem dX8_feed_25 : decode cX8_feed 25 = .ok (.iload 4, 2) := bdX8_feed_0 (25, .iload 4, 2) (List.mem_of_getElem? (i := 13) rfl)
theorem dX8_feed_27 : decode cX8_feed 27 = .ok (.iconst 4, 1) := bdX8_feed_0 (27, .iconst 4, 1) (List.mem_of_getElem? (i := 14) rfl)
theorem dX8_feed_28 : decode cX8_feed 28 = .ok (.if_icmp .ge 7, 3) := bdX8_feed_0 (28, .if_icmp .ge 7, 3) (List.mem_of_getElem? (i := 15) rfl)
theorem dX8_feed_31 : decode cX8_feed 31 = .ok (.iload_n 1, 1) := bdX8_feed_0 (31, .iload_n 1, 1) (List.mem_of_getElem? (i := 16) rfl)
theorem dX8_feed_32 : decode cX8_feed 32 = .ok (.goto 15, 3) := bdX8_feed_0 (32, .goto 15, 3) (List.mem_of_getElem? (i := 17) rfl)
theorem dX8_feed_35 : decode cX8_feed 35 = .ok (.iload 4, 2) := bdX8_feed_0 (35, .iload 4, 2) (List.mem_of_getElem? (i := 18) rfl)
theorem dX8_feed_37 : decode cX8_feed 37 = .ok (.bipush 8, 2) := bdX8_feed_0 (37, .bipush 8, 2) (List.mem_of_getElem? (i := 19) rfl)
theorem dX8_feed_39 : decode cX8_feed 39 = .ok (.if_icmp .ge 7, 3) := bdX8_feed_0 (39, .if_icmp .ge 7, 3) (List.mem_of_getElem? (i := 20) rfl)
theorem dX8_feed_42 : decode cX8_feed 42 = .ok (.iload_n 2, 1) := bdX8_feed_0 (42, .iload_n 2, 1) (List.mem_of_getElem? (i := 21) rfl)
theorem dX8_feed_43 : decode cX8_feed 43 = .ok (.goto 4, 3) := bdX8_feed_0 (43, .goto 4, 3) (List.mem_of_getElem? (i := 22) rfl)
theorem dX8_feed_46 : decode cX8_feed 46 = .ok (.iload_n 3, 1) := bdX8_feed_0 (46, .iload_n 3, 1) (List.mem_of_getElem? (i := 23) rfl)
theorem dX8_feed_47 : decode cX8_feed 47 = .ok (.istore 5, 2) := bdX8_feed_0 (47, .istore 5, 2) (List.mem_of_getElem? (i := 24) rfl)
theorem dX8_feed_49 : decode cX8_feed 49 = .ok (.aload_n 0, 1) := bdX8_feed_0 (49, .aload_n 0, 1) (List.mem_of_getElem? (i := 25) rfl)
theorem dX8_feed_50 : decode cX8_feed 50 = .ok (.getfield 25, 3) := bdX8_feed_0 (50, .getfield 25, 3) (List.mem_of_getElem? (i := 26) rfl)
theorem dX8_feed_53 : decode cX8_feed 53 = .ok (.aload_n 0, 1) := bdX8_feed_0 (53, .aload_n 0, 1) (List.mem_of_getElem? (i := 27) rfl)
theorem dX8_feed_54 : decode cX8_feed 54 = .ok (.getfield 190, 3) := bdX8_feed_0 (54, .getfield 190, 3) (List.mem_of_getElem? (i := 28) rfl)
theorem dX8_feed_57 : decode cX8_feed 57 = .ok (.iload 4, 2) := bdX8_feed_0 (57, .iload 4, 2) (List.mem_of_getElem? (i := 29) rfl)
theorem dX8_feed_59 : decode cX8_feed 59 = .ok (.iadd, 1) := bdX8_feed_0 (59, .iadd, 1) (List.mem_of_getElem? (i := 30) rfl)
theorem dX8_feed_60 : decode cX8_feed 60 = .ok (.iload 5, 2) := bdX8_feed_0 (60, .iload 5, 2) (List.mem_of_getElem? (i := 31) rfl)
theorem dX8_feed_62 : decode cX8_feed 62 = .ok (.bipush 24, 2) := bdX8_feed_0 (62, .bipush 24, 2) (List.mem_of_getElem? (i := 32) rfl)
theorem dX8_feed_64 : decode cX8_feed 64 = .ok (.bipush 8, 2) := bdX8_feed_0 (64, .bipush 8, 2) (List.mem_of_getElem? (i := 33) rfl)
theorem dX8_feed_66 : decode cX8_feed 66 = .ok (.iload 4, 2) := bdX8_feed_0 (66, .iload 4, 2) (List.mem_of_getElem? (i := 34) rfl)
theorem dX8_feed_68 : decode cX8_feed 68 = .ok (.iconst 4, 1) := bdX8_feed_0 (68, .iconst 4, 1) (List.mem_of_getElem? (i := 35) rfl)
theorem dX8_feed_69 : decode cX8_feed 69 = .ok (.irem, 1) := bdX8_feed_0 (69, .irem, 1) (List.mem_of_getElem? (i := 36) rfl)
theorem dX8_feed_70 : decode cX8_feed 70 = .ok (.imul, 1) := bdX8_feed_0 (70, .imul, 1) (List.mem_of_getElem? (i := 37) rfl)
theorem dX8_feed_71 : decode cX8_feed 71 = .ok (.isub, 1) := bdX8_feed_0 (71, .isub, 1) (List.mem_of_getElem? (i := 38) rfl)
theorem dX8_feed_73 : decode cX8_feed 73 = .ok (.sipush 255, 3) := bdX8_feed_0 (73, .sipush 255, 3) (List.mem_of_getElem? (i := 39) rfl)
theorem bdX8_feed_76 : ∀ q ∈ ([(76, .iand, 1), (77, .iastore, 1), (78, .iinc 4 1, 3), (81, .goto (-63), 3), (84, .aload_n 0, 1), (85, .dup, 1), (86, .getfield 190, 3), (89, .bipush 12, 2), (91, .iadd, 1), (92, .putfield 190, 3), (95, .aload_n 0, 1), (96, .getfield 190, 3), (99, .ireturn, 1)] : List (Nat × Jvm.ClassFile.Instr × Nat)), decode cX8_feed q.1 = .ok q.2 := chk_ok _ 76 _ rfl (by decide +kernel)
theorem dX8_feed_76 : decode cX8_feed 76 = .ok (.iand, 1) := bdX8_feed_76 (76, .iand, 1) (List.mem_of_getElem? (i := 0) rfl)
theorem dX8_feed_77 : decode cX8_feed 77 = .ok (.iastore, 1) := bdX8_feed_76 (77, .iastore, 1) (List.mem_of_getElem? (i := 1) rfl)
theorem dX8_feed_78 : decode cX8_feed 78 = .ok (.iinc 4 1, 3) := bdX8_feed_76 (78, .iinc 4 1, 3) (List.mem_of_getElem? (i := 2) rfl)
theorem dX8_feed_81 : decode cX8_feed 81 = .ok (.goto (-63), 3) := bdX8_feed_76 (81, .goto (-63), 3) (List.mem_of_getElem? (i := 3) rfl)
theorem dX8_feed_84 : decode cX8_feed 84 = .ok (.aload_n 0, 1) := bdX8_feed_76 (84, .aload_n 0, 1) (List.mem_of_getElem? (i := 4) rfl)
theorem dX8_feed_85 : decode cX8_feed 85 = .ok (.dup, 1) := bdX8_feed_76 (85, .dup, 1) (List.mem_of_getElem? (i := 5) rfl)
theorem dX8_feed_86 : decode cX8_feed 86 = .ok (.getfield 190, 3) := bdX8_feed_76 (86, .getfield 190, 3) (List.mem_of_getElem? (i := 6) rfl)
theorem dX8_feed_89 : decode cX8_feed 89 = .ok (.bipush 12, 2) := bdX8_feed_76 (89, .bipush 12, 2) (List.mem_of_getElem? (i := 7) rfl)
theorem dX8_feed_91 : decode cX8_feed 91 = .ok (.iadd, 1) := bdX8_feed_76 (91, .iadd, 1) (List.mem_of_getElem? (i := 8) rfl)
theorem dX8_feed_92 : decode cX8_feed 92 = .ok (.putfield 190, 3) := bdX8_feed_76 (92, .putfield 190, 3) (List.mem_of_getElem? (i := 9) rfl)
theorem dX8_feed_95 : decode cX8_feed 95 = .ok (.aload_n 0, 1) := bdX8_feed_76 (95, .aload_n 0, 1) (List.mem_of_getElem? (i := 10) rfl)
theorem dX8_feed_96 : decode cX8_feed 96 = .ok (.getfield 190, 3) := bdX8_feed_76 (96, .getfield 190, 3) (List.mem_of_getElem? (i := 11) rfl)
theorem dX8_feed_99 : decode cX8_feed 99 = .ok (.ireturn, 1) := bdX8_feed_76 (99, .ireturn, 1) (List.mem_of_getElem? (i := 12) rfl)
theorem dX8_feed_72 : decode cX8_feed 72 = .ok (.ishr, 1) := by decide +kernel
theorem fX8_25 : fldOK RX8 25 8 6 (.array .int) true := ⟨_, _, _, tyX8, ⟨rfl, iX8, by decide, rfl, by decide⟩, tw_943, ⟨tyX8_ok, nmX8⟩, by decide +kernel, rfl, rfl⟩
theorem fX8_190 : fldOK RX8 190 8 7 .int false := ⟨_, _, _, tyX8, ⟨rfl, iX8, by decide, rfl, by decide⟩, tw_944, ⟨tyX8_ok, nmX8⟩, by decide +kernel, rfl, rfl⟩
def BX8_feed_47 (ln : Nat → Nat) (post : Int32 → HC → Prop) (K18 : HC → Nat → Int32 → Int32 → Int32 → Int32 → Prop) (S : HC) (x0 : Nat) (x1 : Int32) (x2 : Int32) (x3 : Int32) (x4 : Int32) (t0 : Int32) : Prop := dn_ (hR S x0 6) fun b1 => lt_ (hI S x0 7) fun z2 => lt_ (z2 + x4) fun z3 => ne_ (4 : Int32) <| lt_ (x4 - x4 / (4 : Int32) * (4 : Int32)) fun z4 => lt_ ((8 : Int32) * z4) fun z5 => lt_ ((24 : Int32) - z5) fun z6 => lt_ (t0 >>> (z6 &&& 31)) fun z7 => lt_ (z7 &&& (255 : Int32)) fun z8 => as_ (ln b1) z3 (fun j => sI S b1 j z8) fun S => lt_ (x4 + (1 : Int32)) fun z9 => K18 S x0 x1 x2 x3 z9
def LX8_feed_18 (ln : Nat → Nat) (post : Int32 → HC → Prop) : Nat → HC → Nat → Int32 → Int32 → Int32 → Int32 → Prop
  | 0 => fun _ _ _ _ _ _ => False
  | n18 + 1 => fun S x0 x1 x2 x3 x4 => if (12 : Int32) ≤ x4 then (lt_ (hI S x0 7) fun z10 => lt_ (z10 + (12 : Int32)) fun z11 => lt_ (sI S x0 7 z11) fun S => lt_ (hI S x0 7) fun z12 => post z12 S) else (if (4 : Int32) ≤ x4 then (if (8 : Int32) ≤ x4 then (BX8_feed_47 ln post (LX8_feed_18 ln post n18) S x0 x1 x2 x3 x4 x3) else (BX8_feed_47 ln post (LX8_feed_18 ln post n18) S x0 x1 x2 x3 x4 x2)) else (BX8_feed_47 ln post (LX8_feed_18 ln post n18) S x0 x1 x2 x3 x4 x1))
def wpX8_feed (ln : Nat → Nat) (S : HC) (a0 : Nat) (a1 : Int32) (a2 : Int32) (a3 : Int32) (post : Int32 → HC → Prop) : Prop := lt_ (hI S a0 7) fun z13 => lt_ (z13 + (12 : Int32)) fun z14 => if z14 ≤ (96 : Int32) then (∃ n18, LX8_feed_18 ln post n18 S a0 a1 a2 a3 (0 : Int32)) else (post (-1000000003 : Int32) S)
abbrev rmX8_feed : Room := { frames := 0, cells := 0, slots := 0, locals := 0 }
set_option maxHeartbeats 4000000 in
set_option maxRecDepth 100000 in
theorem ctX8_feed {l : Launch} {g : GX} {N : Nat} {ln : Nat → Nat} {S : HC} {a0 : Nat} {a1 : Int32} {a2 : Int32} {a3 : Int32} {post : Int32 → HC → Prop} (hr_a0 : a0 < N) (hk_a0 : kd a0 = 8) (h : wpX8_feed ln S a0 a1 a2 a3 post) : Met l yX8_feed (Cond.code yX8_feed prog_10_method_54_code 6 (Option.some Jvm.ClassFile.FieldType.int) :: gtbl) rmX8_feed (va_Pc [.ref (gz g + a0), .int a1, .int a2, .int a3] (AtP g N ln S)) (QI g N ln post) 0 0 (gF g) := by
  refine m_of (by decide) (Nat.le_of_ble_eq_true rfl) ?_
  intro p e s m below meth c ls F hr I hl
  have hl : lv_has ls 6 [(0, .ref (gz g + a0)), (1, .int a1), (2, .int a2), (3, .int a3)] := hl
  unfold wpX8_feed at h
  have hl_18 : ∀ n18 : Nat, ∀ (S : HC) (H : Heap) (locs : List Loc) (ls : Array Slot) (x0 : Nat) (x1 : Int32) (x2 : Int32) (x3 : Int32) (x4 : Int32), x0 < N → kd x0 = 8 → LX8_feed_18 ln post n18 S x0 x1 x2 x3 x4 → Inv g N ln S s H locs → lv_has ls 6 [(0, .ref (gz g + x0)), (1, .int x1), (2, .int x2), (3, .int x3), (4, .int x4)] → W p l e rmX8_feed s m ([.ref (gz g + a0), .int a1, .int a2, .int a3] : List Value).toArray below meth c H locs 0 0 (MQ below (QI g N ln post) ([.ref (gz g + a0), .int a1, .int a2, .int a3] : List Value).toArray s 0 0 (gF g)) (F0 m 18 ls []) := by
    intro n18
    induction n18 with
    | zero =>
      intro S H locs ls x0 x1 x2 x3 x4 hr_x0 hk_x0 h I hl
      exact h.elim
    | succ n18 ih =>
      have hk18 := ih
      have hj_47 : ∀ (S : HC) (H : Heap) (locs : List Loc) (ls : Array Slot) (x0 : Nat) (x1 : Int32) (x2 : Int32) (x3 : Int32) (x4 : Int32) (t0 : Int32), x0 < N → kd x0 = 8 → BX8_feed_47 ln post (LX8_feed_18 ln post n18) S x0 x1 x2 x3 x4 t0 → Inv g N ln S s H locs → lv_has ls 6 [(0, .ref (gz g + x0)), (1, .int x1), (2, .int x2), (3, .int x3), (4, .int x4)] → W p l e rmX8_feed s m ([.ref (gz g + a0), .int a1, .int a2, .int a3] : List Value).toArray below meth c H locs 0 0 (MQ below (QI g N ln post) ([.ref (gz g + a0), .int a1, .int a2, .int a3] : List Value).toArray s 0 0 (gF g)) (F0 m 47 ls [.int t0]) := by
        intro S H locs ls x0 x1 x2 x3 x4 t0 hr_x0 hk_x0 h I hl
        unfold BX8_feed_47 at h
        refine lv_istore (lv' := [(5, .int t0), (0, .ref (gz g + x0)), (1, .int x1), (2, .int x2), (3, .int x3), (4, .int x4)]) F.1 F.2.1 dX8_feed_47 hl (by decide) rfl (fun ls hl => ?_)
        refine lv_aload_n F.1 F.2.1 dX8_feed_49 rfl (lv_at hl 1 rfl) ?_
        refine r_getN F I hr_x0 hk_x0 fX8_25 (f := 9) rfl (by decide) dX8_feed_50 h (fun b1 hr_b1 hk_b1 h => ?_)
        refine lv_aload_n F.1 F.2.1 dX8_feed_53 rfl (lv_at hl 1 rfl) ?_
        refine r_getI F I hr_x0 hk_x0 fX8_190 rfl dX8_feed_54 h (fun z2 h => ?_)
        refine lv_iload F.1 F.2.1 dX8_feed_57 (lv_at hl 5 rfl) ?_
        refine r_iadd F dX8_feed_59 h (fun z3 h => ?_)
        refine lv_iload F.1 F.2.1 dX8_feed_60 (lv_at hl 0 rfl) ?_
        refine lv_bipush (v := 24) F.1 F.2.1 dX8_feed_62 (by decide) ?_
        refine lv_bipush (v := 8) F.1 F.2.1 dX8_feed_64 (by decide) ?_
        refine lv_iload F.1 F.2.1 dX8_feed_66 (lv_at hl 5 rfl) ?_
        refine lv_iconst (v := 4) F.1 F.2.1 dX8_feed_68 (by decide) ?_
        refine r_irem F dX8_feed_69 h (fun z4 h => ?_)
        refine r_imul F dX8_feed_70 h (fun z5 h => ?_)
        refine r_isub F dX8_feed_71 h (fun z6 h => ?_)
        refine r_ishr F dX8_feed_72 h (fun z7 h => ?_)
        refine lv_sipush (v := 255) F.1 F.2.1 dX8_feed_73 (by decide) ?_
        refine r_iand F dX8_feed_76 h (fun z8 h => ?_)
        refine r_ast F I hr_b1 hk_b1 dX8_feed_77 h (fun S H locs I h => ?_)
        obtain ⟨z9, e_z9, h⟩ := lt_x h
        refine lv_iinc (v := z9) (lv' := [(4, .int z9), (5, .int t0), (0, .ref (gz g + x0)), (1, .int x1), (2, .int x2), (3, .int x3)]) F.1 F.2.1 dX8_feed_78 hl (k := 5) rfl (by rw [e_z9]; rfl) (by decide) rfl (fun ls hl => ?_)
        refine lv_goto (tgt := 18) F.1 F.2.1 dX8_feed_81 (by decide) ?_
        exact hk18 S _ _ _ x0 x1 x2 x3 z9 hr_x0 hk_x0 h I (lv_sub hl [2, 3, 4, 5, 0] rfl)
      intro S H locs ls x0 x1 x2 x3 x4 hr_x0 hk_x0 h I hl
      rw [LX8_feed_18] at h
      refine lv_iload F.1 F.2.1 dX8_feed_18 (lv_at hl 4 rfl) ?_
      refine lv_bipush (v := 12) F.1 F.2.1 dX8_feed_20 (by decide) ?_
      refine r_icmp_ge (tgt := 84) F dX8_feed_22 (by decide) h (fun h => ?_) (fun h => ?_)
      · refine lv_aload_n F.1 F.2.1 dX8_feed_84 rfl (lv_at hl 0 rfl) ?_
        refine lv_dup F.1 F.2.1 dX8_feed_85 rfl ?_
        refine r_getI F I hr_x0 hk_x0 fX8_190 rfl dX8_feed_86 h (fun z10 h => ?_)
        refine lv_bipush (v := 12) F.1 F.2.1 dX8_feed_89 (by decide) ?_
        refine r_iadd F dX8_feed_91 h (fun z11 h => ?_)
        refine r_putI F I hr_x0 hk_x0 fX8_190 rfl (Or.inl rfl) ⟨rfl, rfl⟩ dX8_feed_92 h (fun S H locs I h => ?_)
        refine lv_aload_n F.1 F.2.1 dX8_feed_95 rfl (lv_at hl 0 rfl) ?_
        refine r_getI F I hr_x0 hk_x0 fX8_190 rfl dX8_feed_96 h (fun z12 h => ?_)
        exact r_ireturn F I ⟨hr.1, hr.2.1, trivial⟩ h dX8_feed_99
      · refine lv_iload F.1 F.2.1 dX8_feed_25 (lv_at hl 4 rfl) ?_
        refine lv_iconst (v := 4) F.1 F.2.1 dX8_feed_27 (by decide) ?_
        refine r_icmp_ge (tgt := 35) F dX8_feed_28 (by decide) h (fun h => ?_) (fun h => ?_)
        · refine lv_iload F.1 F.2.1 dX8_feed_35 (lv_at hl 4 rfl) ?_
          refine lv_bipush (v := 8) F.1 F.2.1 dX8_feed_37 (by decide) ?_
          refine r_icmp_ge (tgt := 46) F dX8_feed_39 (by decide) h (fun h => ?_) (fun h => ?_)
          · refine lv_iload_n F.1 F.2.1 dX8_feed_46 rfl (lv_at hl 3 rfl) ?_
            exact hj_47 S _ _ _ x0 x1 x2 x3 x4 x3 hr_x0 hk_x0 h I (lv_sub hl [0, 1, 2, 3, 4] rfl)
          · refine lv_iload_n F.1 F.2.1 dX8_feed_42 rfl (lv_at hl 2 rfl) ?_
            refine lv_goto (tgt := 47) F.1 F.2.1 dX8_feed_43 (by decide) ?_
            exact hj_47 S _ _ _ x0 x1 x2 x3 x4 x2 hr_x0 hk_x0 h I (lv_sub hl [0, 1, 2, 3, 4] rfl)
        · refine lv_iload_n F.1 F.2.1 dX8_feed_31 rfl (lv_at hl 1 rfl) ?_
          refine lv_goto (tgt := 47) F.1 F.2.1 dX8_feed_32 (by decide) ?_
          exact hj_47 S _ _ _ x0 x1 x2 x3 x4 x1 hr_x0 hk_x0 h I (lv_sub hl [0, 1, 2, 3, 4] rfl)
  refine lv_aload_n F.1 F.2.1 dX8_feed_0 rfl (lv_at hl 0 rfl) ?_
  refine r_getI F I hr_a0 hk_a0 fX8_190 rfl dX8_feed_1 h (fun z13 h => ?_)
  refine lv_bipush (v := 12) F.1 F.2.1 dX8_feed_4 (by decide) ?_
  refine r_iadd F dX8_feed_6 h (fun z14 h => ?_)
  refine lv_bipush (v := 96) F.1 F.2.1 dX8_feed_7 (by decide) ?_
  refine r_icmp_le (tgt := 15) F dX8_feed_9 (by decide) h (fun h => ?_) (fun h => ?_)
  · refine lv_iconst (v := 0) F.1 F.2.1 dX8_feed_15 (by decide) ?_
    refine lv_istore (lv' := [(4, .int (0 : Int32)), (0, .ref (gz g + a0)), (1, .int a1), (2, .int a2), (3, .int a3)]) F.1 F.2.1 dX8_feed_16 hl (by decide) rfl (fun ls hl => ?_)
    obtain ⟨n18, h⟩ := h
    exact hl_18 n18 S _ _ _ a0 a1 a2 a3 (0 : Int32) hr_a0 hk_a0 h I (lv_sub hl [1, 2, 3, 4, 0] rfl)
  · refine lv_ldc F.1 F.2.1 F.2.2.2.1 (F.2.2.2.2 _ tw_1065) dX8_feed_12 ?_
    exact r_ireturn F I ⟨hr.1, hr.2.1, trivial⟩ h dX8_feed_14
theorem bdX8_trim_0 : ∀ q ∈ ([(0, .iload_n 1, 1), (1, .iconst 0, 1), (2, .aload_n 0, 1), (3, .getfield 190, 3), (6, .invokestatic 79, 3), (9, .ifCond .ne 6, 3), (12, .ldc 98, 2), (14, .ireturn, 1), (15, .aload_n 0, 1), (16, .iload_n 1, 1), (17, .putfield 190, 3), (20, .iload_n 1, 1), (21, .ireturn, 1)] : List (Nat × Jvm.ClassFile.Instr × Nat)), decode cX8_trim q.1 = .ok q.2 := chk_ok _ 0 _ rfl (by decide +kernel)
theorem dX8_trim_0 : decode cX8_trim 0 = .ok (.iload_n 1, 1) := bdX8_trim_0 (0, .iload_n 1, 1) (List.mem_of_getElem? (i := 0) rfl)
theorem dX8_trim_1 : decode cX8_trim 1 = .ok (.iconst 0, 1) := bdX8_trim_0 (1, .iconst 0, 1) (List.mem_of_getElem? (i := 1) rfl)
theorem dX8_trim_2 : decode cX8_trim 2 = .ok (.aload_n 0, 1) := bdX8_trim_0 (2, .aload_n 0, 1) (List.mem_of_getElem? (i := 2) rfl)
theorem dX8_trim_3 : decode cX8_trim 3 = .ok (.getfield 190, 3) := bdX8_trim_0 (3, .getfield 190, 3) (List.mem_of_getElem? (i := 3) rfl)
theorem dX8_trim_6 : decode cX8_trim 6 = .ok (.invokestatic 79, 3) := bdX8_trim_0 (6, .invokestatic 79, 3) (List.mem_of_getElem? (i := 4) rfl)
theorem dX8_trim_9 : decode cX8_trim 9 = .ok (.ifCond .ne 6, 3) := bdX8_trim_0 (9, .ifCond .ne 6, 3) (List.mem_of_getElem? (i := 5) rfl)
theorem dX8_trim_12 : decode cX8_trim 12 = .ok (.ldc 98, 2) := bdX8_trim_0 (12, .ldc 98, 2) (List.mem_of_getElem? (i := 6) rfl)
theorem dX8_trim_14 : decode cX8_trim 14 = .ok (.ireturn, 1) := bdX8_trim_0 (14, .ireturn, 1) (List.mem_of_getElem? (i := 7) rfl)
theorem dX8_trim_15 : decode cX8_trim 15 = .ok (.aload_n 0, 1) := bdX8_trim_0 (15, .aload_n 0, 1) (List.mem_of_getElem? (i := 8) rfl)
theorem dX8_trim_16 : decode cX8_trim 16 = .ok (.iload_n 1, 1) := bdX8_trim_0 (16, .iload_n 1, 1) (List.mem_of_getElem? (i := 9) rfl)
theorem dX8_trim_17 : decode cX8_trim 17 = .ok (.putfield 190, 3) := bdX8_trim_0 (17, .putfield 190, 3) (List.mem_of_getElem? (i := 10) rfl)
theorem dX8_trim_20 : decode cX8_trim 20 = .ok (.iload_n 1, 1) := bdX8_trim_0 (20, .iload_n 1, 1) (List.mem_of_getElem? (i := 11) rfl)
theorem dX8_trim_21 : decode cX8_trim 21 = .ok (.ireturn, 1) := bdX8_trim_0 (21, .ireturn, 1) (List.mem_of_getElem? (i := 12) rfl)
def wpX8_trim (ln : Nat → Nat) (S : HC) (a0 : Nat) (a1 : Int32) (post : Int32 → HC → Prop) : Prop := lt_ (hI S a0 7) fun z1 => wpX8_in ln S a1 (0 : Int32) z1 fun z2 S => if z2 = 0 then (post (-1000000001 : Int32) S) else (lt_ (sI S a0 7 a1) fun S => post a1 S)
abbrev rmX8_trim : Room := { frames := 1, cells := 0, slots := 0, locals := 22 }
set_option maxHeartbeats 4000000 in
set_option maxRecDepth 100000 in
theorem ctX8_trim {l : Launch} {g : GX} {N : Nat} {ln : Nat → Nat} {S : HC} {a0 : Nat} {a1 : Int32} {post : Int32 → HC → Prop} (hr_a0 : a0 < N) (hk_a0 : kd a0 = 8) (h : wpX8_trim ln S a0 a1 post) : Met l yX8_trim (Cond.code yX8_trim prog_10_method_55_code 2 (Option.some Jvm.ClassFile.FieldType.int) :: gtbl) rmX8_trim (va_Pc [.ref (gz g + a0), .int a1] (AtP g N ln S)) (QI g N ln post) 0 0 (gF g) := by
  refine m_of (by decide) (Nat.le_of_ble_eq_true rfl) ?_
  intro p e s m below meth c ls F hr I hl
  have hl : lv_has ls 2 [(0, .ref (gz g + a0)), (1, .int a1)] := hl
  unfold wpX8_trim at h
  refine lv_iload_n F.1 F.2.1 dX8_trim_0 rfl (lv_at hl 1 rfl) ?_
  refine lv_iconst (v := 0) F.1 F.2.1 dX8_trim_1 (by decide) ?_
  refine lv_aload_n F.1 F.2.1 dX8_trim_2 rfl (lv_at hl 0 rfl) ?_
  refine r_getI F I hr_a0 hk_a0 fX8_190 rfl dX8_trim_3 h (fun z1 h => ?_)
  refine g_I I (run_S (As := [.int a1, .int (0 : Int32), .int z1]) (rest := []) F I kX8_79 (ctX8_in h) ⟨rfl, rfl⟩ ⟨Nat.le_of_ble_eq_true rfl, Nat.le_of_ble_eq_true rfl⟩ rfl hl.1 rfl (Nat.le_of_ble_eq_true rfl) ⟨Nat.le_of_ble_eq_true rfl, Nat.le_of_ble_eq_true rfl⟩ dX8_trim_6) (fun z2 S H locs I h => ?_)
  refine r_if_ne (tgt := 15) F dX8_trim_9 (by decide) h (fun h => ?_) (fun h => ?_)
  · refine lv_aload_n F.1 F.2.1 dX8_trim_15 rfl (lv_at hl 0 rfl) ?_
    refine lv_iload_n F.1 F.2.1 dX8_trim_16 rfl (lv_at hl 1 rfl) ?_
    refine r_putI F I hr_a0 hk_a0 fX8_190 rfl (Or.inl rfl) ⟨rfl, rfl⟩ dX8_trim_17 h (fun S H locs I h => ?_)
    refine lv_iload_n F.1 F.2.1 dX8_trim_20 rfl (lv_at hl 1 rfl) ?_
    exact r_ireturn F I ⟨hr.1, hr.2.1, trivial⟩ h dX8_trim_21
  · refine lv_ldc F.1 F.2.1 F.2.2.2.1 (F.2.2.2.2 _ tw_1064) dX8_trim_12 ?_
    exact r_ireturn F I ⟨hr.1, hr.2.1, trivial⟩ h dX8_trim_14
theorem bdX8_textTold_0 : ∀ q ∈ ([(0, .iload_n 1, 1), (1, .iconst 0, 1), (2, .aload_n 0, 1), (3, .getfield 9, 3), (6, .iconst 4, 1), (7, .iaload, 1), (8, .iconst 1, 1), (9, .isub, 1), (10, .invokestatic 79, 3), (13, .ifCond .eq 12, 3), (16, .iload_n 2, 1), (17, .iconst 0, 1), (18, .iconst 1, 1), (19, .invokestatic 79, 3), (22, .ifCond .ne 6, 3), (25, .ldc 98, 2), (27, .ireturn, 1), (28, .iload_n 2, 1), (29, .ifCond .ne 21, 3), (32, .aload_n 0, 1), (33, .getfield 9, 3), (36, .bipush 89, 2), (38, .iconst 2, 1), (39, .iload_n 1, 1), (40, .imul, 1), (41, .iadd, 1), (42, .iaload, 1), (43, .sipush 1000, 3), (47, .goto 16, 3), (50, .aload_n 0, 1), (51, .getfield 9, 3), (54, .bipush 89, 2), (56, .iconst 2, 1), (57, .iload_n 1, 1), (58, .imul, 1), (59, .iadd, 1), (60, .iconst 1, 1), (61, .iadd, 1), (62, .iaload, 1), (63, .ireturn, 1)] : List (Nat × Jvm.ClassFile.Instr × Nat)), decode cX8_textTold q.1 = .ok q.2 := chk_ok _ 0 _ rfl (by decide +kernel)
theorem dX8_textTold_0 : decode cX8_textTold 0 = .ok (.iload_n 1, 1) := bdX8_textTold_0 (0, .iload_n 1, 1) (List.mem_of_getElem? (i := 0) rfl)
theorem dX8_textTold_1 : decode cX8_textTold 1 = .ok (.iconst 0, 1) := bdX8_textTold_0 (1, .iconst 0, 1) (List.mem_of_getElem? (i := 1) rfl)
theorem dX8_textTold_2 : decode cX8_textTold 2 = .ok (.aload_n 0, 1) := bdX8_textTold_0 (2, .aload_n 0, 1) (List.mem_of_getElem? (i := 2) rfl)
theorem dX8_textTold_3 : decode cX8_textTold 3 = .ok (.getfield 9, 3) := bdX8_textTold_0 (3, .getfield 9, 3) (List.mem_of_getElem? (i := 3) rfl)
theorem dX8_textTold_6 : decode cX8_textTold 6 = .ok (.iconst 4, 1) := bdX8_textTold_0 (6, .iconst 4, 1) (List.mem_of_getElem? (i := 4) rfl)
theorem dX8_textTold_7 : decode cX8_textTold 7 = .ok (.iaload, 1) := bdX8_textTold_0 (7, .iaload, 1) (List.mem_of_getElem? (i := 5) rfl)
theorem dX8_textTold_8 : decode cX8_textTold 8 = .ok (.iconst 1, 1) := bdX8_textTold_0 (8, .iconst 1, 1) (List.mem_of_getElem? (i := 6) rfl)
theorem dX8_textTold_9 : decode cX8_textTold 9 = .ok (.isub, 1) := bdX8_textTold_0 (9, .isub, 1) (List.mem_of_getElem? (i := 7) rfl)
theorem dX8_textTold_10 : decode cX8_textTold 10 = .ok (.invokestatic 79, 3) := bdX8_textTold_0 (10, .invokestatic 79, 3) (List.mem_of_getElem? (i := 8) rfl)
theorem dX8_textTold_13 : decode cX8_textTold 13 = .ok (.ifCond .eq 12, 3) := bdX8_textTold_0 (13, .ifCond .eq 12, 3) (List.mem_of_getElem? (i := 9) rfl)
theorem dX8_textTold_16 : decode cX8_textTold 16 = .ok (.iload_n 2, 1) := bdX8_textTold_0 (16, .iload_n 2, 1) (List.mem_of_getElem? (i := 10) rfl)
theorem dX8_textTold_17 : decode cX8_textTold 17 = .ok (.iconst 0, 1) := bdX8_textTold_0 (17, .iconst 0, 1) (List.mem_of_getElem? (i := 11) rfl)
theorem dX8_textTold_18 : decode cX8_textTold 18 = .ok (.iconst 1, 1) := bdX8_textTold_0 (18, .iconst 1, 1) (List.mem_of_getElem? (i := 12) rfl)
theorem dX8_textTold_19 : decode cX8_textTold 19 = .ok (.invokestatic 79, 3) := bdX8_textTold_0 (19, .invokestatic 79, 3) (List.mem_of_getElem? (i := 13) rfl)
theorem dX8_textTold_22 : decode cX8_textTold 22 = .ok (.ifCond .ne 6, 3) := bdX8_textTold_0 (22, .ifCond .ne 6, 3) (List.mem_of_getElem? (i := 14) rfl)
theorem dX8_textTold_25 : decode cX8_textTold 25 = .ok (.ldc 98, 2) := bdX8_textTold_0 (25, .ldc 98, 2) (List.mem_of_getElem? (i := 15) rfl)
theorem dX8_textTold_27 : decode cX8_textTold 27 = .ok (.ireturn, 1) := bdX8_textTold_0 (27, .ireturn, 1) (List.mem_of_getElem? (i := 16) rfl)
theorem dX8_textTold_28 : decode cX8_textTold 28 = .ok (.iload_n 2, 1) := bdX8_textTold_0 (28, .iload_n 2, 1) (List.mem_of_getElem? (i := 17) rfl)
theorem dX8_textTold_29 : decode cX8_textTold 29 = .ok (.ifCond .ne 21, 3) := bdX8_textTold_0 (29, .ifCond .ne 21, 3) (List.mem_of_getElem? (i := 18) rfl)
theorem dX8_textTold_32 : decode cX8_textTold 32 = .ok (.aload_n 0, 1) := bdX8_textTold_0 (32, .aload_n 0, 1) (List.mem_of_getElem? (i := 19) rfl)
theorem dX8_textTold_33 : decode cX8_textTold 33 = .ok (.getfield 9, 3) := bdX8_textTold_0 (33, .getfield 9, 3) (List.mem_of_getElem? (i := 20) rfl)
theorem dX8_textTold_36 : decode cX8_textTold 36 = .ok (.bipush 89, 2) := bdX8_textTold_0 (36, .bipush 89, 2) (List.mem_of_getElem? (i := 21) rfl)
theorem dX8_textTold_38 : decode cX8_textTold 38 = .ok (.iconst 2, 1) := bdX8_textTold_0 (38, .iconst 2, 1) (List.mem_of_getElem? (i := 22) rfl)
theorem dX8_textTold_39 : decode cX8_textTold 39 = .ok (.iload_n 1, 1) := bdX8_textTold_0 (39, .iload_n 1, 1) (List.mem_of_getElem? (i := 23) rfl)
theorem dX8_textTold_40 : decode cX8_textTold 40 = .ok (.imul, 1) := bdX8_textTold_0 (40, .imul, 1) (List.mem_of_getElem? (i := 24) rfl)
theorem dX8_textTold_41 : decode cX8_textTold 41 = .ok (.iadd, 1) := bdX8_textTold_0 (41, .iadd, 1) (List.mem_of_getElem? (i := 25) rfl)
theorem dX8_textTold_42 : decode cX8_textTold 42 = .ok (.iaload, 1) := bdX8_textTold_0 (42, .iaload, 1) (List.mem_of_getElem? (i := 26) rfl)
theorem dX8_textTold_43 : decode cX8_textTold 43 = .ok (.sipush 1000, 3) := bdX8_textTold_0 (43, .sipush 1000, 3) (List.mem_of_getElem? (i := 27) rfl)
theorem dX8_textTold_47 : decode cX8_textTold 47 = .ok (.goto 16, 3) := bdX8_textTold_0 (47, .goto 16, 3) (List.mem_of_getElem? (i := 28) rfl)
theorem dX8_textTold_50 : decode cX8_textTold 50 = .ok (.aload_n 0, 1) := bdX8_textTold_0 (50, .aload_n 0, 1) (List.mem_of_getElem? (i := 29) rfl)
theorem dX8_textTold_51 : decode cX8_textTold 51 = .ok (.getfield 9, 3) := bdX8_textTold_0 (51, .getfield 9, 3) (List.mem_of_getElem? (i := 30) rfl)
theorem dX8_textTold_54 : decode cX8_textTold 54 = .ok (.bipush 89, 2) := bdX8_textTold_0 (54, .bipush 89, 2) (List.mem_of_getElem? (i := 31) rfl)
theorem dX8_textTold_56 : decode cX8_textTold 56 = .ok (.iconst 2, 1) := bdX8_textTold_0 (56, .iconst 2, 1) (List.mem_of_getElem? (i := 32) rfl)
theorem dX8_textTold_57 : decode cX8_textTold 57 = .ok (.iload_n 1, 1) := bdX8_textTold_0 (57, .iload_n 1, 1) (List.mem_of_getElem? (i := 33) rfl)
theorem dX8_textTold_58 : decode cX8_textTold 58 = .ok (.imul, 1) := bdX8_textTold_0 (58, .imul, 1) (List.mem_of_getElem? (i := 34) rfl)
theorem dX8_textTold_59 : decode cX8_textTold 59 = .ok (.iadd, 1) := bdX8_textTold_0 (59, .iadd, 1) (List.mem_of_getElem? (i := 35) rfl)
theorem dX8_textTold_60 : decode cX8_textTold 60 = .ok (.iconst 1, 1) := bdX8_textTold_0 (60, .iconst 1, 1) (List.mem_of_getElem? (i := 36) rfl)
theorem dX8_textTold_61 : decode cX8_textTold 61 = .ok (.iadd, 1) := bdX8_textTold_0 (61, .iadd, 1) (List.mem_of_getElem? (i := 37) rfl)
theorem dX8_textTold_62 : decode cX8_textTold 62 = .ok (.iaload, 1) := bdX8_textTold_0 (62, .iaload, 1) (List.mem_of_getElem? (i := 38) rfl)
theorem dX8_textTold_63 : decode cX8_textTold 63 = .ok (.ireturn, 1) := bdX8_textTold_0 (63, .ireturn, 1) (List.mem_of_getElem? (i := 39) rfl)
theorem dX8_textTold_46 : decode cX8_textTold 46 = .ok (.idiv, 1) := by decide +kernel
def BX8_textTold_25 (ln : Nat → Nat) (post : Int32 → HC → Prop) (S : HC)  : Prop := post (-1000000001 : Int32) S
def wpX8_textTold (ln : Nat → Nat) (S : HC) (a0 : Nat) (a1 : Int32) (a2 : Int32) (post : Int32 → HC → Prop) : Prop := dn_ (hR S a0 0) fun b1 => al_ (ln b1) (4 : Int32) (hI S b1) fun z2 => lt_ (z2 - (1 : Int32)) fun z3 => wpX8_in ln S a1 (0 : Int32) z3 fun z4 S => if z4 = 0 then (BX8_textTold_25 ln post S) else (wpX8_in ln S a2 (0 : Int32) (1 : Int32) fun z5 S => if z5 = 0 then (BX8_textTold_25 ln post S) else (if a2 = 0 then (dn_ (hR S a0 0) fun b11 => lt_ ((2 : Int32) * a1) fun z12 => lt_ ((89 : Int32) + z12) fun z13 => al_ (ln b11) z13 (hI S b11) fun z14 => ne_ (1000 : Int32) <| lt_ (z14 / (1000 : Int32)) fun z15 => post z15 S) else (dn_ (hR S a0 0) fun b6 => lt_ ((2 : Int32) * a1) fun z7 => lt_ ((89 : Int32) + z7) fun z8 => lt_ (z8 + (1 : Int32)) fun z9 => al_ (ln b6) z9 (hI S b6) fun z10 => post z10 S)))
abbrev rmX8_textTold : Room := { frames := 1, cells := 0, slots := 0, locals := 22 }
set_option maxHeartbeats 4000000 in
set_option maxRecDepth 100000 in
theorem ctX8_textTold {l : Launch} {g : GX} {N : Nat} {ln : Nat → Nat} {S : HC} {a0 : Nat} {a1 : Int32} {a2 : Int32} {post : Int32 → HC → Prop} (hr_a0 : a0 < N) (hk_a0 : kd a0 = 8) (h : wpX8_textTold ln S a0 a1 a2 post) : Met l yX8_textTold (Cond.code yX8_textTold prog_10_method_68_code 3 (Option.some Jvm.ClassFile.FieldType.int) :: gtbl) rmX8_textTold (va_Pc [.ref (gz g + a0), .int a1, .int a2] (AtP g N ln S)) (QI g N ln post) 0 0 (gF g) := by
  refine m_of (by decide) (Nat.le_of_ble_eq_true rfl) ?_
  intro p e s m below meth c ls F hr I hl
  have hl : lv_has ls 3 [(0, .ref (gz g + a0)), (1, .int a1), (2, .int a2)] := hl
  unfold wpX8_textTold at h
  have hj_25 : ∀ (S : HC) (H : Heap) (locs : List Loc) (ls : Array Slot), BX8_textTold_25 ln post S  → Inv g N ln S s H locs → lv_has ls 3 [] → W p l e rmX8_textTold s m ([.ref (gz g + a0), .int a1, .int a2] : List Value).toArray below meth c H locs 0 0 (MQ below (QI g N ln post) ([.ref (gz g + a0), .int a1, .int a2] : List Value).toArray s 0 0 (gF g)) (F0 m 25 ls []) := by
    intro S H locs ls h I hl
    unfold BX8_textTold_25 at h
    refine lv_ldc F.1 F.2.1 F.2.2.2.1 (F.2.2.2.2 _ tw_1064) dX8_textTold_25 ?_
    exact r_ireturn F I ⟨hr.1, hr.2.1, trivial⟩ h dX8_textTold_27
  refine lv_iload_n F.1 F.2.1 dX8_textTold_0 rfl (lv_at hl 1 rfl) ?_
  refine lv_iconst (v := 0) F.1 F.2.1 dX8_textTold_1 (by decide) ?_
  refine lv_aload_n F.1 F.2.1 dX8_textTold_2 rfl (lv_at hl 0 rfl) ?_
  refine r_getN F I hr_a0 hk_a0 fX8_9 (f := 9) rfl (by decide) dX8_textTold_3 h (fun b1 hr_b1 hk_b1 h => ?_)
  refine lv_iconst (v := 4) F.1 F.2.1 dX8_textTold_6 (by decide) ?_
  refine r_ald F I hr_b1 hk_b1 dX8_textTold_7 h (fun z2 h => ?_)
  refine lv_iconst (v := 1) F.1 F.2.1 dX8_textTold_8 (by decide) ?_
  refine r_isub F dX8_textTold_9 h (fun z3 h => ?_)
  refine g_I I (run_S (As := [.int a1, .int (0 : Int32), .int z3]) (rest := []) F I kX8_79 (ctX8_in h) ⟨rfl, rfl⟩ ⟨Nat.le_of_ble_eq_true rfl, Nat.le_of_ble_eq_true rfl⟩ rfl hl.1 rfl (Nat.le_of_ble_eq_true rfl) ⟨Nat.le_of_ble_eq_true rfl, Nat.le_of_ble_eq_true rfl⟩ dX8_textTold_10) (fun z4 S H locs I h => ?_)
  refine r_if_eq (tgt := 25) F dX8_textTold_13 (by decide) h (fun h => ?_) (fun h => ?_)
  · exact hj_25 S _ _ _   h I (lv_sub hl [] rfl)
  · refine lv_iload_n F.1 F.2.1 dX8_textTold_16 rfl (lv_at hl 2 rfl) ?_
    refine lv_iconst (v := 0) F.1 F.2.1 dX8_textTold_17 (by decide) ?_
    refine lv_iconst (v := 1) F.1 F.2.1 dX8_textTold_18 (by decide) ?_
    refine g_I I (run_S (As := [.int a2, .int (0 : Int32), .int (1 : Int32)]) (rest := []) F I kX8_79 (ctX8_in h) ⟨rfl, rfl⟩ ⟨Nat.le_of_ble_eq_true rfl, Nat.le_of_ble_eq_true rfl⟩ rfl hl.1 rfl (Nat.le_of_ble_eq_true rfl) ⟨Nat.le_of_ble_eq_true rfl, Nat.le_of_ble_eq_true rfl⟩ dX8_textTold_19) (fun z5 S H locs I h => ?_)
    refine r_if_ne (tgt := 28) F dX8_textTold_22 (by decide) h (fun h => ?_) (fun h => ?_)
    · refine lv_iload_n F.1 F.2.1 dX8_textTold_28 rfl (lv_at hl 2 rfl) ?_
      refine r_if_ne (tgt := 50) F dX8_textTold_29 (by decide) h (fun h => ?_) (fun h => ?_)
      · refine lv_aload_n F.1 F.2.1 dX8_textTold_50 rfl (lv_at hl 0 rfl) ?_
        refine r_getN F I hr_a0 hk_a0 fX8_9 (f := 9) rfl (by decide) dX8_textTold_51 h (fun b6 hr_b6 hk_b6 h => ?_)
        refine lv_bipush (v := 89) F.1 F.2.1 dX8_textTold_54 (by decide) ?_
        refine lv_iconst (v := 2) F.1 F.2.1 dX8_textTold_56 (by decide) ?_
        refine lv_iload_n F.1 F.2.1 dX8_textTold_57 rfl (lv_at hl 1 rfl) ?_
        refine r_imul F dX8_textTold_58 h (fun z7 h => ?_)
        refine r_iadd F dX8_textTold_59 h (fun z8 h => ?_)
        refine lv_iconst (v := 1) F.1 F.2.1 dX8_textTold_60 (by decide) ?_
        refine r_iadd F dX8_textTold_61 h (fun z9 h => ?_)
        refine r_ald F I hr_b6 hk_b6 dX8_textTold_62 h (fun z10 h => ?_)
        exact r_ireturn F I ⟨hr.1, hr.2.1, trivial⟩ h dX8_textTold_63
      · refine lv_aload_n F.1 F.2.1 dX8_textTold_32 rfl (lv_at hl 0 rfl) ?_
        refine r_getN F I hr_a0 hk_a0 fX8_9 (f := 9) rfl (by decide) dX8_textTold_33 h (fun b11 hr_b11 hk_b11 h => ?_)
        refine lv_bipush (v := 89) F.1 F.2.1 dX8_textTold_36 (by decide) ?_
        refine lv_iconst (v := 2) F.1 F.2.1 dX8_textTold_38 (by decide) ?_
        refine lv_iload_n F.1 F.2.1 dX8_textTold_39 rfl (lv_at hl 1 rfl) ?_
        refine r_imul F dX8_textTold_40 h (fun z12 h => ?_)
        refine r_iadd F dX8_textTold_41 h (fun z13 h => ?_)
        refine r_ald F I hr_b11 hk_b11 dX8_textTold_42 h (fun z14 h => ?_)
        refine lv_sipush (v := 1000) F.1 F.2.1 dX8_textTold_43 (by decide) ?_
        refine r_idiv F dX8_textTold_46 h (fun z15 h => ?_)
        refine lv_goto (tgt := 63) F.1 F.2.1 dX8_textTold_47 (by decide) ?_
        exact r_ireturn F I ⟨hr.1, hr.2.1, trivial⟩ h dX8_textTold_63
    · exact hj_25 S _ _ _   h I (lv_sub hl [] rfl)
theorem bdX8_why_0 : ∀ q ∈ ([(0, .iload_n 1, 1), (1, .iconst 0, 1), (2, .iconst 2, 1), (3, .invokestatic 79, 3), (6, .ifCond .ne 6, 3), (9, .ldc 98, 2), (11, .ireturn, 1), (12, .aload_n 0, 1), (13, .iload_n 1, 1), (14, .invokevirtual 111, 3), (17, .istore_n 2, 1), (18, .iload_n 2, 1), (19, .ifCond .ge 8, 3), (22, .ldc 78, 2), (24, .goto 4, 3), (27, .iload_n 2, 1), (28, .ireturn, 1)] : List (Nat × Jvm.ClassFile.Instr × Nat)), decode cX8_why q.1 = .ok q.2 := chk_ok _ 0 _ rfl (by decide +kernel)
theorem dX8_why_0 : decode cX8_why 0 = .ok (.iload_n 1, 1) := bdX8_why_0 (0, .iload_n 1, 1) (List.mem_of_getElem? (i := 0) rfl)
theorem dX8_why_1 : decode cX8_why 1 = .ok (.iconst 0, 1) := bdX8_why_0 (1, .iconst 0, 1) (List.mem_of_getElem? (i := 1) rfl)
theorem dX8_why_2 : decode cX8_why 2 = .ok (.iconst 2, 1) := bdX8_why_0 (2, .iconst 2, 1) (List.mem_of_getElem? (i := 2) rfl)
theorem dX8_why_3 : decode cX8_why 3 = .ok (.invokestatic 79, 3) := bdX8_why_0 (3, .invokestatic 79, 3) (List.mem_of_getElem? (i := 3) rfl)
theorem dX8_why_6 : decode cX8_why 6 = .ok (.ifCond .ne 6, 3) := bdX8_why_0 (6, .ifCond .ne 6, 3) (List.mem_of_getElem? (i := 4) rfl)
theorem dX8_why_9 : decode cX8_why 9 = .ok (.ldc 98, 2) := bdX8_why_0 (9, .ldc 98, 2) (List.mem_of_getElem? (i := 5) rfl)
theorem dX8_why_11 : decode cX8_why 11 = .ok (.ireturn, 1) := bdX8_why_0 (11, .ireturn, 1) (List.mem_of_getElem? (i := 6) rfl)
theorem dX8_why_12 : decode cX8_why 12 = .ok (.aload_n 0, 1) := bdX8_why_0 (12, .aload_n 0, 1) (List.mem_of_getElem? (i := 7) rfl)
theorem dX8_why_13 : decode cX8_why 13 = .ok (.iload_n 1, 1) := bdX8_why_0 (13, .iload_n 1, 1) (List.mem_of_getElem? (i := 8) rfl)
theorem dX8_why_14 : decode cX8_why 14 = .ok (.invokevirtual 111, 3) := bdX8_why_0 (14, .invokevirtual 111, 3) (List.mem_of_getElem? (i := 9) rfl)
theorem dX8_why_17 : decode cX8_why 17 = .ok (.istore_n 2, 1) := bdX8_why_0 (17, .istore_n 2, 1) (List.mem_of_getElem? (i := 10) rfl)
theorem dX8_why_18 : decode cX8_why 18 = .ok (.iload_n 2, 1) := bdX8_why_0 (18, .iload_n 2, 1) (List.mem_of_getElem? (i := 11) rfl)
theorem dX8_why_19 : decode cX8_why 19 = .ok (.ifCond .ge 8, 3) := bdX8_why_0 (19, .ifCond .ge 8, 3) (List.mem_of_getElem? (i := 12) rfl)
theorem dX8_why_22 : decode cX8_why 22 = .ok (.ldc 78, 2) := bdX8_why_0 (22, .ldc 78, 2) (List.mem_of_getElem? (i := 13) rfl)
theorem dX8_why_24 : decode cX8_why 24 = .ok (.goto 4, 3) := bdX8_why_0 (24, .goto 4, 3) (List.mem_of_getElem? (i := 14) rfl)
theorem dX8_why_27 : decode cX8_why 27 = .ok (.iload_n 2, 1) := bdX8_why_0 (27, .iload_n 2, 1) (List.mem_of_getElem? (i := 15) rfl)
theorem dX8_why_28 : decode cX8_why 28 = .ok (.ireturn, 1) := bdX8_why_0 (28, .ireturn, 1) (List.mem_of_getElem? (i := 16) rfl)
def wpX8_why (ln : Nat → Nat) (S : HC) (a0 : Nat) (a1 : Int32) (post : Int32 → HC → Prop) : Prop := wpX8_in ln S a1 (0 : Int32) (2 : Int32) fun z1 S => if z1 = 0 then (post (-1000000001 : Int32) S) else (wpX8_counts ln S a0 a1 fun z2 S => if 0 ≤ z2 then (post z2 S) else (post (-1000000005 : Int32) S))
abbrev rmX8_why : Room := { frames := 1, cells := 0, slots := 0, locals := 22 }
set_option maxHeartbeats 4000000 in
set_option maxRecDepth 100000 in
theorem ctX8_why {l : Launch} {g : GX} {N : Nat} {ln : Nat → Nat} {S : HC} {a0 : Nat} {a1 : Int32} {post : Int32 → HC → Prop} (hr_a0 : a0 < N) (hk_a0 : kd a0 = 8) (h : wpX8_why ln S a0 a1 post) : Met l yX8_why (Cond.code yX8_why prog_10_method_70_code 3 (Option.some Jvm.ClassFile.FieldType.int) :: gtbl) rmX8_why (va_Pc [.ref (gz g + a0), .int a1] (AtP g N ln S)) (QI g N ln post) 0 0 (gF g) := by
  refine m_of (by decide) (Nat.le_of_ble_eq_true rfl) ?_
  intro p e s m below meth c ls F hr I hl
  have hl : lv_has ls 3 [(0, .ref (gz g + a0)), (1, .int a1)] := hl
  unfold wpX8_why at h
  refine lv_iload_n F.1 F.2.1 dX8_why_0 rfl (lv_at hl 1 rfl) ?_
  refine lv_iconst (v := 0) F.1 F.2.1 dX8_why_1 (by decide) ?_
  refine lv_iconst (v := 2) F.1 F.2.1 dX8_why_2 (by decide) ?_
  refine g_I I (run_S (As := [.int a1, .int (0 : Int32), .int (2 : Int32)]) (rest := []) F I kX8_79 (ctX8_in h) ⟨rfl, rfl⟩ ⟨Nat.le_of_ble_eq_true rfl, Nat.le_of_ble_eq_true rfl⟩ rfl hl.1 rfl (Nat.le_of_ble_eq_true rfl) ⟨Nat.le_of_ble_eq_true rfl, Nat.le_of_ble_eq_true rfl⟩ dX8_why_3) (fun z1 S H locs I h => ?_)
  refine r_if_ne (tgt := 12) F dX8_why_6 (by decide) h (fun h => ?_) (fun h => ?_)
  · refine lv_aload_n F.1 F.2.1 dX8_why_12 rfl (lv_at hl 0 rfl) ?_
    refine lv_iload_n F.1 F.2.1 dX8_why_13 rfl (lv_at hl 1 rfl) ?_
    refine g_I I (run_V (As := [.int a1]) (rest := []) F I hr_a0 hk_a0 (by decide) kX8_111 (ctX8_counts hr_a0 hk_a0 h) ⟨rfl, rfl⟩ ⟨Nat.le_of_ble_eq_true rfl, Nat.le_of_ble_eq_true rfl⟩ rfl hl.1 rfl (Nat.le_of_ble_eq_true rfl) ⟨Nat.le_of_ble_eq_true rfl, Nat.le_of_ble_eq_true rfl⟩ dX8_why_14) (fun z2 S H locs I h => ?_)
    refine lv_istore_n (lv' := [(2, .int z2), (0, .ref (gz g + a0)), (1, .int a1)]) F.1 F.2.1 dX8_why_17 rfl hl (by decide) rfl (fun ls hl => ?_)
    refine lv_iload_n F.1 F.2.1 dX8_why_18 rfl (lv_at hl 0 rfl) ?_
    refine r_if_ge (tgt := 27) F dX8_why_19 (by decide) h (fun h => ?_) (fun h => ?_)
    · refine lv_iload_n F.1 F.2.1 dX8_why_27 rfl (lv_at hl 0 rfl) ?_
      exact r_ireturn F I ⟨hr.1, hr.2.1, trivial⟩ h dX8_why_28
    · refine lv_ldc F.1 F.2.1 F.2.2.2.1 (F.2.2.2.2 _ tw_1208) dX8_why_22 ?_
      refine lv_goto (tgt := 28) F.1 F.2.1 dX8_why_24 (by decide) ?_
      exact r_ireturn F I ⟨hr.1, hr.2.1, trivial⟩ h dX8_why_28
  · refine lv_ldc F.1 F.2.1 F.2.2.2.1 (F.2.2.2.2 _ tw_1064) dX8_why_9 ?_
    exact r_ireturn F I ⟨hr.1, hr.2.1, trivial⟩ h dX8_why_11
theorem bdX8_sheet_0 : ∀ q ∈ ([(0, .iload_n 1, 1), (1, .invokestatic 182, 3), (4, .ifCond .eq 22, 3), (7, .iload_n 2, 1), (8, .iconst (-1), 1), (9, .iconst 1, 1), (10, .invokestatic 79, 3), (13, .ifCond .eq 13, 3), (16, .iload_n 2, 1), (17, .ifCond .lt 12, 3), (20, .iload_n 3, 1), (21, .bipush 24, 2), (23, .if_icmp .le 6, 3), (26, .ldc 98, 2), (28, .ireturn, 1), (29, .iload_n 2, 1), (30, .ifCond .lt 11, 3), (33, .iload_n 3, 1), (34, .ifCond .ge 7, 3), (37, .ldc_w 258, 3), (40, .ireturn, 1), (41, .aload_n 0, 1), (42, .getfield 51, 3), (45, .iload_n 1, 1), (46, .iload_n 2, 1), (47, .iastore, 1), (48, .aload_n 0, 1), (49, .getfield 54, 3), (52, .iload_n 1, 1), (53, .iload_n 2, 1), (54, .ifCond .ge 7, 3), (57, .iconst 0, 1), (58, .goto 4, 3), (61, .iload_n 3, 1), (62, .iastore, 1), (63, .iconst 0, 1), (64, .istore 4, 2), (66, .iload 4, 2), (68, .bipush 24, 2), (70, .if_icmp .ge 22, 3)] : List (Nat × Jvm.ClassFile.Instr × Nat)), decode cX8_sheet q.1 = .ok q.2 := chk_ok _ 0 _ rfl (by decide +kernel)
theorem dX8_sheet_0 : decode cX8_sheet 0 = .ok (.iload_n 1, 1) := bdX8_sheet_0 (0, .iload_n 1, 1) (List.mem_of_getElem? (i := 0) rfl)
theorem dX8_sheet_1 : decode cX8_sheet 1 = .ok (.invokestatic 182, 3) := bdX8_sheet_0 (1, .invokestatic 182, 3) (List.mem_of_getElem? (i := 1) rfl)
theorem dX8_sheet_4 : decode cX8_sheet 4 = .ok (.ifCond .eq 22, 3) := bdX8_sheet_0 (4, .ifCond .eq 22, 3) (List.mem_of_getElem? (i := 2) rfl)
theorem dX8_sheet_7 : decode cX8_sheet 7 = .ok (.iload_n 2, 1) := bdX8_sheet_0 (7, .iload_n 2, 1) (List.mem_of_getElem? (i := 3) rfl)
theorem dX8_sheet_8 : decode cX8_sheet 8 = .ok (.iconst (-1), 1) := bdX8_sheet_0 (8, .iconst (-1), 1) (List.mem_of_getElem? (i := 4) rfl)
theorem dX8_sheet_9 : decode cX8_sheet 9 = .ok (.iconst 1, 1) := bdX8_sheet_0 (9, .iconst 1, 1) (List.mem_of_getElem? (i := 5) rfl)
theorem dX8_sheet_10 : decode cX8_sheet 10 = .ok (.invokestatic 79, 3) := bdX8_sheet_0 (10, .invokestatic 79, 3) (List.mem_of_getElem? (i := 6) rfl)
theorem dX8_sheet_13 : decode cX8_sheet 13 = .ok (.ifCond .eq 13, 3) := bdX8_sheet_0 (13, .ifCond .eq 13, 3) (List.mem_of_getElem? (i := 7) rfl)
theorem dX8_sheet_16 : decode cX8_sheet 16 = .ok (.iload_n 2, 1) := bdX8_sheet_0 (16, .iload_n 2, 1) (List.mem_of_getElem? (i := 8) rfl)
theorem dX8_sheet_17 : decode cX8_sheet 17 = .ok (.ifCond .lt 12, 3) := bdX8_sheet_0 (17, .ifCond .lt 12, 3) (List.mem_of_getElem? (i := 9) rfl)
theorem dX8_sheet_20 : decode cX8_sheet 20 = .ok (.iload_n 3, 1) := bdX8_sheet_0 (20, .iload_n 3, 1) (List.mem_of_getElem? (i := 10) rfl)
theorem dX8_sheet_21 : decode cX8_sheet 21 = .ok (.bipush 24, 2) := bdX8_sheet_0 (21, .bipush 24, 2) (List.mem_of_getElem? (i := 11) rfl)
theorem dX8_sheet_23 : decode cX8_sheet 23 = .ok (.if_icmp .le 6, 3) := bdX8_sheet_0 (23, .if_icmp .le 6, 3) (List.mem_of_getElem? (i := 12) rfl)
theorem dX8_sheet_26 : decode cX8_sheet 26 = .ok (.ldc 98, 2) := bdX8_sheet_0 (26, .ldc 98, 2) (List.mem_of_getElem? (i := 13) rfl)
theorem dX8_sheet_28 : decode cX8_sheet 28 = .ok (.ireturn, 1) := bdX8_sheet_0 (28, .ireturn, 1) (List.mem_of_getElem? (i := 14) rfl)
theorem dX8_sheet_29 : decode cX8_sheet 29 = .ok (.iload_n 2, 1) := bdX8_sheet_0 (29, .iload_n 2, 1) (List.mem_of_getElem? (i := 15) rfl)
theorem dX8_sheet_30 : decode cX8_sheet 30 = .ok (.ifCond .lt 11, 3) := bdX8_sheet_0 (30, .ifCond .lt 11, 3) (List.mem_of_getElem? (i := 16) rfl)
theorem dX8_sheet_33 : decode cX8_sheet 33 = .ok (.iload_n 3, 1) := bdX8_sheet_0 (33, .iload_n 3, 1) (List.mem_of_getElem? (i := 17) rfl)
theorem dX8_sheet_34 : decode cX8_sheet 34 = .ok (.ifCond .ge 7, 3) := bdX8_sheet_0 (34, .ifCond .ge 7, 3) (List.mem_of_getElem? (i := 18) rfl)
theorem dX8_sheet_37 : decode cX8_sheet 37 = .ok (.ldc_w 258, 3) := bdX8_sheet_0 (37, .ldc_w 258, 3) (List.mem_of_getElem? (i := 19) rfl)
theorem dX8_sheet_40 : decode cX8_sheet 40 = .ok (.ireturn, 1) := bdX8_sheet_0 (40, .ireturn, 1) (List.mem_of_getElem? (i := 20) rfl)
theorem dX8_sheet_41 : decode cX8_sheet 41 = .ok (.aload_n 0, 1) := bdX8_sheet_0 (41, .aload_n 0, 1) (List.mem_of_getElem? (i := 21) rfl)
theorem dX8_sheet_42 : decode cX8_sheet 42 = .ok (.getfield 51, 3) := bdX8_sheet_0 (42, .getfield 51, 3) (List.mem_of_getElem? (i := 22) rfl)
theorem dX8_sheet_45 : decode cX8_sheet 45 = .ok (.iload_n 1, 1) := bdX8_sheet_0 (45, .iload_n 1, 1) (List.mem_of_getElem? (i := 23) rfl)
theorem dX8_sheet_46 : decode cX8_sheet 46 = .ok (.iload_n 2, 1) := bdX8_sheet_0 (46, .iload_n 2, 1) (List.mem_of_getElem? (i := 24) rfl)
theorem dX8_sheet_47 : decode cX8_sheet 47 = .ok (.iastore, 1) := bdX8_sheet_0 (47, .iastore, 1) (List.mem_of_getElem? (i := 25) rfl)
theorem dX8_sheet_48 : decode cX8_sheet 48 = .ok (.aload_n 0, 1) := bdX8_sheet_0 (48, .aload_n 0, 1) (List.mem_of_getElem? (i := 26) rfl)
theorem dX8_sheet_49 : decode cX8_sheet 49 = .ok (.getfield 54, 3) := bdX8_sheet_0 (49, .getfield 54, 3) (List.mem_of_getElem? (i := 27) rfl)
theorem dX8_sheet_52 : decode cX8_sheet 52 = .ok (.iload_n 1, 1) := bdX8_sheet_0 (52, .iload_n 1, 1) (List.mem_of_getElem? (i := 28) rfl)
theorem dX8_sheet_53 : decode cX8_sheet 53 = .ok (.iload_n 2, 1) := bdX8_sheet_0 (53, .iload_n 2, 1) (List.mem_of_getElem? (i := 29) rfl)
theorem dX8_sheet_54 : decode cX8_sheet 54 = .ok (.ifCond .ge 7, 3) := bdX8_sheet_0 (54, .ifCond .ge 7, 3) (List.mem_of_getElem? (i := 30) rfl)
theorem dX8_sheet_57 : decode cX8_sheet 57 = .ok (.iconst 0, 1) := bdX8_sheet_0 (57, .iconst 0, 1) (List.mem_of_getElem? (i := 31) rfl)
theorem dX8_sheet_58 : decode cX8_sheet 58 = .ok (.goto 4, 3) := bdX8_sheet_0 (58, .goto 4, 3) (List.mem_of_getElem? (i := 32) rfl)
theorem dX8_sheet_61 : decode cX8_sheet 61 = .ok (.iload_n 3, 1) := bdX8_sheet_0 (61, .iload_n 3, 1) (List.mem_of_getElem? (i := 33) rfl)
theorem dX8_sheet_62 : decode cX8_sheet 62 = .ok (.iastore, 1) := bdX8_sheet_0 (62, .iastore, 1) (List.mem_of_getElem? (i := 34) rfl)
theorem dX8_sheet_63 : decode cX8_sheet 63 = .ok (.iconst 0, 1) := bdX8_sheet_0 (63, .iconst 0, 1) (List.mem_of_getElem? (i := 35) rfl)
theorem dX8_sheet_64 : decode cX8_sheet 64 = .ok (.istore 4, 2) := bdX8_sheet_0 (64, .istore 4, 2) (List.mem_of_getElem? (i := 36) rfl)
theorem dX8_sheet_66 : decode cX8_sheet 66 = .ok (.iload 4, 2) := bdX8_sheet_0 (66, .iload 4, 2) (List.mem_of_getElem? (i := 37) rfl)
theorem dX8_sheet_68 : decode cX8_sheet 68 = .ok (.bipush 24, 2) := bdX8_sheet_0 (68, .bipush 24, 2) (List.mem_of_getElem? (i := 38) rfl)
theorem dX8_sheet_70 : decode cX8_sheet 70 = .ok (.if_icmp .ge 22, 3) := bdX8_sheet_0 (70, .if_icmp .ge 22, 3) (List.mem_of_getElem? (i := 39) rfl)
theorem bdX8_sheet_73 : ∀ q ∈ ([(73, .aload_n 0, 1), (74, .getfield 57, 3), (77, .bipush 24, 2), (79, .iload_n 1, 1), (80, .imul, 1), (81, .iload 4, 2), (83, .iadd, 1), (84, .iconst 0, 1), (85, .iastore, 1), (86, .iinc 4 1, 3), (89, .goto (-23), 3), (92, .aload_n 0, 1), (93, .getfield 54, 3), (96, .iload_n 1, 1), (97, .iaload, 1), (98, .ireturn, 1)] : List (Nat × Jvm.ClassFile.Instr × Nat)), decode cX8_sheet q.1 = .ok q.2 := chk_ok _ 73 _ rfl (by decide +kernel)
theorem dX8_sheet_73 : decode cX8_sheet 73 = .ok (.aload_n 0, 1) := bdX8_sheet_73 (73, .aload_n 0, 1) (List.mem_of_getElem? (i := 0) rfl)
theorem dX8_sheet_74 : decode cX8_sheet 74 = .ok (.getfield 57, 3) := bdX8_sheet_73 (74, .getfield 57, 3) (List.mem_of_getElem? (i := 1) rfl)
theorem dX8_sheet_77 : decode cX8_sheet 77 = .ok (.bipush 24, 2) := bdX8_sheet_73 (77, .bipush 24, 2) (List.mem_of_getElem? (i := 2) rfl)
theorem dX8_sheet_79 : decode cX8_sheet 79 = .ok (.iload_n 1, 1) := bdX8_sheet_73 (79, .iload_n 1, 1) (List.mem_of_getElem? (i := 3) rfl)
theorem dX8_sheet_80 : decode cX8_sheet 80 = .ok (.imul, 1) := bdX8_sheet_73 (80, .imul, 1) (List.mem_of_getElem? (i := 4) rfl)
theorem dX8_sheet_81 : decode cX8_sheet 81 = .ok (.iload 4, 2) := bdX8_sheet_73 (81, .iload 4, 2) (List.mem_of_getElem? (i := 5) rfl)
theorem dX8_sheet_83 : decode cX8_sheet 83 = .ok (.iadd, 1) := bdX8_sheet_73 (83, .iadd, 1) (List.mem_of_getElem? (i := 6) rfl)
theorem dX8_sheet_84 : decode cX8_sheet 84 = .ok (.iconst 0, 1) := bdX8_sheet_73 (84, .iconst 0, 1) (List.mem_of_getElem? (i := 7) rfl)
theorem dX8_sheet_85 : decode cX8_sheet 85 = .ok (.iastore, 1) := bdX8_sheet_73 (85, .iastore, 1) (List.mem_of_getElem? (i := 8) rfl)
theorem dX8_sheet_86 : decode cX8_sheet 86 = .ok (.iinc 4 1, 3) := bdX8_sheet_73 (86, .iinc 4 1, 3) (List.mem_of_getElem? (i := 9) rfl)
theorem dX8_sheet_89 : decode cX8_sheet 89 = .ok (.goto (-23), 3) := bdX8_sheet_73 (89, .goto (-23), 3) (List.mem_of_getElem? (i := 10) rfl)
theorem dX8_sheet_92 : decode cX8_sheet 92 = .ok (.aload_n 0, 1) := bdX8_sheet_73 (92, .aload_n 0, 1) (List.mem_of_getElem? (i := 11) rfl)
theorem dX8_sheet_93 : decode cX8_sheet 93 = .ok (.getfield 54, 3) := bdX8_sheet_73 (93, .getfield 54, 3) (List.mem_of_getElem? (i := 12) rfl)
theorem dX8_sheet_96 : decode cX8_sheet 96 = .ok (.iload_n 1, 1) := bdX8_sheet_73 (96, .iload_n 1, 1) (List.mem_of_getElem? (i := 13) rfl)
theorem dX8_sheet_97 : decode cX8_sheet 97 = .ok (.iaload, 1) := bdX8_sheet_73 (97, .iaload, 1) (List.mem_of_getElem? (i := 14) rfl)
theorem dX8_sheet_98 : decode cX8_sheet 98 = .ok (.ireturn, 1) := bdX8_sheet_73 (98, .ireturn, 1) (List.mem_of_getElem? (i := 15) rfl)
def LX8_sheet_66 (ln : Nat → Nat) (post : Int32 → HC → Prop) : Nat → HC → Nat → Int32 → Int32 → Prop
  | 0 => fun _ _ _ _ => False
  | n66 + 1 => fun S x0 x1 x4 => if (24 : Int32) ≤ x4 then (dn_ (hR S x0 25) fun b1 => al_ (ln b1) x1 (hI S b1) fun z2 => post z2 S) else (dn_ (hR S x0 26) fun b3 => lt_ ((24 : Int32) * x1) fun z4 => lt_ (z4 + x4) fun z5 => as_ (ln b3) z5 (fun j => sI S b3 j (0 : Int32)) fun S => lt_ (x4 + (1 : Int32)) fun z6 => (LX8_sheet_66 ln post n66) S x0 x1 z6)
def BX8_sheet_62 (ln : Nat → Nat) (post : Int32 → HC → Prop) (S : HC) (x0 : Nat) (x1 : Int32) (t0 : Nat) (t1 : Int32) (t2 : Int32) : Prop := as_ (ln t0) t1 (fun j => sI S t0 j t2) fun S => ∃ n66, LX8_sheet_66 ln post n66 S x0 x1 (0 : Int32)
def BX8_sheet_41 (ln : Nat → Nat) (post : Int32 → HC → Prop) (S : HC) (x0 : Nat) (x1 : Int32) (x2 : Int32) (x3 : Int32) : Prop := dn_ (hR S x0 24) fun b7 => as_ (ln b7) x1 (fun j => sI S b7 j x2) fun S => dn_ (hR S x0 25) fun b8 => if 0 ≤ x2 then (BX8_sheet_62 ln post S x0 x1 b8 x1 x3) else (BX8_sheet_62 ln post S x0 x1 b8 x1 (0 : Int32))
def BX8_sheet_29 (ln : Nat → Nat) (post : Int32 → HC → Prop) (S : HC) (x0 : Nat) (x1 : Int32) (x2 : Int32) (x3 : Int32) : Prop := if x2 < 0 then (BX8_sheet_41 ln post S x0 x1 x2 x3) else (if 0 ≤ x3 then (BX8_sheet_41 ln post S x0 x1 x2 x3) else (post (-1000000014 : Int32) S))
def BX8_sheet_26 (ln : Nat → Nat) (post : Int32 → HC → Prop) (S : HC)  : Prop := post (-1000000001 : Int32) S
def wpX8_sheet (ln : Nat → Nat) (S : HC) (a0 : Nat) (a1 : Int32) (a2 : Int32) (a3 : Int32) (post : Int32 → HC → Prop) : Prop := wpX8_isSheet ln S a1 fun z9 S => if z9 = 0 then (BX8_sheet_26 ln post S) else (wpX8_in ln S a2 (-1 : Int32) (1 : Int32) fun z10 S => if z10 = 0 then (BX8_sheet_26 ln post S) else (if a2 < 0 then (BX8_sheet_29 ln post S a0 a1 a2 a3) else (if a3 ≤ (24 : Int32) then (BX8_sheet_29 ln post S a0 a1 a2 a3) else (BX8_sheet_26 ln post S))))
abbrev rmX8_sheet : Room := { frames := 2, cells := 0, slots := 0, locals := 42 }
set_option maxHeartbeats 4000000 in
set_option maxRecDepth 100000 in
theorem ctX8_sheet {l : Launch} {g : GX} {N : Nat} {ln : Nat → Nat} {S : HC} {a0 : Nat} {a1 : Int32} {a2 : Int32} {a3 : Int32} {post : Int32 → HC → Prop} (hr_a0 : a0 < N) (hk_a0 : kd a0 = 8) (h : wpX8_sheet ln S a0 a1 a2 a3 post) : Met l yX8_sheet (Cond.code yX8_sheet prog_10_method_75_code 5 (Option.some Jvm.ClassFile.FieldType.int) :: gtbl) rmX8_sheet (va_Pc [.ref (gz g + a0), .int a1, .int a2, .int a3] (AtP g N ln S)) (QI g N ln post) 0 0 (gF g) := by
  refine m_of (by decide) (Nat.le_of_ble_eq_true rfl) ?_
  intro p e s m below meth c ls F hr I hl
  have hl : lv_has ls 5 [(0, .ref (gz g + a0)), (1, .int a1), (2, .int a2), (3, .int a3)] := hl
  unfold wpX8_sheet at h
  have hl_66 : ∀ n66 : Nat, ∀ (S : HC) (H : Heap) (locs : List Loc) (ls : Array Slot) (x0 : Nat) (x1 : Int32) (x4 : Int32), x0 < N → kd x0 = 8 → LX8_sheet_66 ln post n66 S x0 x1 x4 → Inv g N ln S s H locs → lv_has ls 5 [(0, .ref (gz g + x0)), (1, .int x1), (4, .int x4)] → W p l e rmX8_sheet s m ([.ref (gz g + a0), .int a1, .int a2, .int a3] : List Value).toArray below meth c H locs 0 0 (MQ below (QI g N ln post) ([.ref (gz g + a0), .int a1, .int a2, .int a3] : List Value).toArray s 0 0 (gF g)) (F0 m 66 ls []) := by
    intro n66
    induction n66 with
    | zero =>
      intro S H locs ls x0 x1 x4 hr_x0 hk_x0 h I hl
      exact h.elim
    | succ n66 ih =>
      have hk66 := ih
      intro S H locs ls x0 x1 x4 hr_x0 hk_x0 h I hl
      rw [LX8_sheet_66] at h
      refine lv_iload F.1 F.2.1 dX8_sheet_66 (lv_at hl 2 rfl) ?_
      refine lv_bipush (v := 24) F.1 F.2.1 dX8_sheet_68 (by decide) ?_
      refine r_icmp_ge (tgt := 92) F dX8_sheet_70 (by decide) h (fun h => ?_) (fun h => ?_)
      · refine lv_aload_n F.1 F.2.1 dX8_sheet_92 rfl (lv_at hl 0 rfl) ?_
        refine r_getN F I hr_x0 hk_x0 fX8_54 (f := 9) rfl (by decide) dX8_sheet_93 h (fun b1 hr_b1 hk_b1 h => ?_)
        refine lv_iload_n F.1 F.2.1 dX8_sheet_96 rfl (lv_at hl 1 rfl) ?_
        refine r_ald F I hr_b1 hk_b1 dX8_sheet_97 h (fun z2 h => ?_)
        exact r_ireturn F I ⟨hr.1, hr.2.1, trivial⟩ h dX8_sheet_98
      · refine lv_aload_n F.1 F.2.1 dX8_sheet_73 rfl (lv_at hl 0 rfl) ?_
        refine r_getN F I hr_x0 hk_x0 fX8_57 (f := 9) rfl (by decide) dX8_sheet_74 h (fun b3 hr_b3 hk_b3 h => ?_)
        refine lv_bipush (v := 24) F.1 F.2.1 dX8_sheet_77 (by decide) ?_
        refine lv_iload_n F.1 F.2.1 dX8_sheet_79 rfl (lv_at hl 1 rfl) ?_
        refine r_imul F dX8_sheet_80 h (fun z4 h => ?_)
        refine lv_iload F.1 F.2.1 dX8_sheet_81 (lv_at hl 2 rfl) ?_
        refine r_iadd F dX8_sheet_83 h (fun z5 h => ?_)
        refine lv_iconst (v := 0) F.1 F.2.1 dX8_sheet_84 (by decide) ?_
        refine r_ast F I hr_b3 hk_b3 dX8_sheet_85 h (fun S H locs I h => ?_)
        obtain ⟨z6, e_z6, h⟩ := lt_x h
        refine lv_iinc (v := z6) (lv' := [(4, .int z6), (0, .ref (gz g + x0)), (1, .int x1)]) F.1 F.2.1 dX8_sheet_86 hl (k := 2) rfl (by rw [e_z6]; rfl) (by decide) rfl (fun ls hl => ?_)
        refine lv_goto (tgt := 66) F.1 F.2.1 dX8_sheet_89 (by decide) ?_
        exact hk66 S _ _ _ x0 x1 z6 hr_x0 hk_x0 h I (lv_sub hl [1, 2, 0] rfl)
  have hj_62 : ∀ (S : HC) (H : Heap) (locs : List Loc) (ls : Array Slot) (x0 : Nat) (x1 : Int32) (t0 : Nat) (t1 : Int32) (t2 : Int32), x0 < N → kd x0 = 8 → t0 < N → kd t0 = 9 → BX8_sheet_62 ln post S x0 x1 t0 t1 t2 → Inv g N ln S s H locs → lv_has ls 5 [(0, .ref (gz g + x0)), (1, .int x1)] → W p l e rmX8_sheet s m ([.ref (gz g + a0), .int a1, .int a2, .int a3] : List Value).toArray below meth c H locs 0 0 (MQ below (QI g N ln post) ([.ref (gz g + a0), .int a1, .int a2, .int a3] : List Value).toArray s 0 0 (gF g)) (F0 m 62 ls [.int t2, .int t1, .ref (gz g + t0)]) := by
    intro S H locs ls x0 x1 t0 t1 t2 hr_x0 hk_x0 hr_t0 hk_t0 h I hl
    unfold BX8_sheet_62 at h
    refine r_ast F I hr_t0 hk_t0 dX8_sheet_62 h (fun S H locs I h => ?_)
    refine lv_iconst (v := 0) F.1 F.2.1 dX8_sheet_63 (by decide) ?_
    refine lv_istore (lv' := [(4, .int (0 : Int32)), (0, .ref (gz g + x0)), (1, .int x1)]) F.1 F.2.1 dX8_sheet_64 hl (by decide) rfl (fun ls hl => ?_)
    obtain ⟨n66, h⟩ := h
    exact hl_66 n66 S _ _ _ x0 x1 (0 : Int32) hr_x0 hk_x0 h I (lv_sub hl [1, 2, 0] rfl)
  have hj_41 : ∀ (S : HC) (H : Heap) (locs : List Loc) (ls : Array Slot) (x0 : Nat) (x1 : Int32) (x2 : Int32) (x3 : Int32), x0 < N → kd x0 = 8 → BX8_sheet_41 ln post S x0 x1 x2 x3 → Inv g N ln S s H locs → lv_has ls 5 [(0, .ref (gz g + x0)), (1, .int x1), (2, .int x2), (3, .int x3)] → W p l e rmX8_sheet s m ([.ref (gz g + a0), .int a1, .int a2, .int a3] : List Value).toArray below meth c H locs 0 0 (MQ below (QI g N ln post) ([.ref (gz g + a0), .int a1, .int a2, .int a3] : List Value).toArray s 0 0 (gF g)) (F0 m 41 ls []) := by
    intro S H locs ls x0 x1 x2 x3 hr_x0 hk_x0 h I hl
    unfold BX8_sheet_41 at h
    refine lv_aload_n F.1 F.2.1 dX8_sheet_41 rfl (lv_at hl 0 rfl) ?_
    refine r_getN F I hr_x0 hk_x0 fX8_51 (f := 9) rfl (by decide) dX8_sheet_42 h (fun b7 hr_b7 hk_b7 h => ?_)
    refine lv_iload_n F.1 F.2.1 dX8_sheet_45 rfl (lv_at hl 1 rfl) ?_
    refine lv_iload_n F.1 F.2.1 dX8_sheet_46 rfl (lv_at hl 2 rfl) ?_
    refine r_ast F I hr_b7 hk_b7 dX8_sheet_47 h (fun S H locs I h => ?_)
    refine lv_aload_n F.1 F.2.1 dX8_sheet_48 rfl (lv_at hl 0 rfl) ?_
    refine r_getN F I hr_x0 hk_x0 fX8_54 (f := 9) rfl (by decide) dX8_sheet_49 h (fun b8 hr_b8 hk_b8 h => ?_)
    refine lv_iload_n F.1 F.2.1 dX8_sheet_52 rfl (lv_at hl 1 rfl) ?_
    refine lv_iload_n F.1 F.2.1 dX8_sheet_53 rfl (lv_at hl 2 rfl) ?_
    refine r_if_ge (tgt := 61) F dX8_sheet_54 (by decide) h (fun h => ?_) (fun h => ?_)
    · refine lv_iload_n F.1 F.2.1 dX8_sheet_61 rfl (lv_at hl 3 rfl) ?_
      exact hj_62 S _ _ _ x0 x1 b8 x1 x3 hr_x0 hk_x0 hr_b8 hk_b8 h I (lv_sub hl [0, 1] rfl)
    · refine lv_iconst (v := 0) F.1 F.2.1 dX8_sheet_57 (by decide) ?_
      refine lv_goto (tgt := 62) F.1 F.2.1 dX8_sheet_58 (by decide) ?_
      exact hj_62 S _ _ _ x0 x1 b8 x1 (0 : Int32) hr_x0 hk_x0 hr_b8 hk_b8 h I (lv_sub hl [0, 1] rfl)
  have hj_29 : ∀ (S : HC) (H : Heap) (locs : List Loc) (ls : Array Slot) (x0 : Nat) (x1 : Int32) (x2 : Int32) (x3 : Int32), x0 < N → kd x0 = 8 → BX8_sheet_29 ln post S x0 x1 x2 x3 → Inv g N ln S s H locs → lv_has ls 5 [(0, .ref (gz g + x0)), (1, .int x1), (2, .int x2), (3, .int x3)] → W p l e rmX8_sheet s m ([.ref (gz g + a0), .int a1, .int a2, .int a3] : List Value).toArray below meth c H locs 0 0 (MQ below (QI g N ln post) ([.ref (gz g + a0), .int a1, .int a2, .int a3] : List Value).toArray s 0 0 (gF g)) (F0 m 29 ls []) := by
    intro S H locs ls x0 x1 x2 x3 hr_x0 hk_x0 h I hl
    unfold BX8_sheet_29 at h
    refine lv_iload_n F.1 F.2.1 dX8_sheet_29 rfl (lv_at hl 2 rfl) ?_
    refine r_if_lt (tgt := 41) F dX8_sheet_30 (by decide) h (fun h => ?_) (fun h => ?_)
    · exact hj_41 S _ _ _ x0 x1 x2 x3 hr_x0 hk_x0 h I (lv_sub hl [0, 1, 2, 3] rfl)
    · refine lv_iload_n F.1 F.2.1 dX8_sheet_33 rfl (lv_at hl 3 rfl) ?_
      refine r_if_ge (tgt := 41) F dX8_sheet_34 (by decide) h (fun h => ?_) (fun h => ?_)
      · exact hj_41 S _ _ _ x0 x1 x2 x3 hr_x0 hk_x0 h I (lv_sub hl [0, 1, 2, 3] rfl)
      · refine lv_ldcw F.1 F.2.1 F.2.2.2.1 (F.2.2.2.2 _ tw_1328) dX8_sheet_37 ?_
        exact r_ireturn F I ⟨hr.1, hr.2.1, trivial⟩ h dX8_sheet_40
  have hj_26 : ∀ (S : HC) (H : Heap) (locs : List Loc) (ls : Array Slot), BX8_sheet_26 ln post S  → Inv g N ln S s H locs → lv_has ls 5 [] → W p l e rmX8_sheet s m ([.ref (gz g + a0), .int a1, .int a2, .int a3] : List Value).toArray below meth c H locs 0 0 (MQ below (QI g N ln post) ([.ref (gz g + a0), .int a1, .int a2, .int a3] : List Value).toArray s 0 0 (gF g)) (F0 m 26 ls []) := by
    intro S H locs ls h I hl
    unfold BX8_sheet_26 at h
    refine lv_ldc F.1 F.2.1 F.2.2.2.1 (F.2.2.2.2 _ tw_1064) dX8_sheet_26 ?_
    exact r_ireturn F I ⟨hr.1, hr.2.1, trivial⟩ h dX8_sheet_28
  refine lv_iload_n F.1 F.2.1 dX8_sheet_0 rfl (lv_at hl 1 rfl) ?_
  refine g_I I (run_S (As := [.int a1]) (rest := []) F I kX8_182 (ctX8_isSheet h) ⟨rfl, rfl⟩ ⟨Nat.le_of_ble_eq_true rfl, Nat.le_of_ble_eq_true rfl⟩ rfl hl.1 rfl (Nat.le_of_ble_eq_true rfl) ⟨Nat.le_of_ble_eq_true rfl, Nat.le_of_ble_eq_true rfl⟩ dX8_sheet_1) (fun z9 S H locs I h => ?_)
  refine r_if_eq (tgt := 26) F dX8_sheet_4 (by decide) h (fun h => ?_) (fun h => ?_)
  · exact hj_26 S _ _ _   h I (lv_sub hl [] rfl)
  · refine lv_iload_n F.1 F.2.1 dX8_sheet_7 rfl (lv_at hl 2 rfl) ?_
    refine lv_iconst (v := -1) F.1 F.2.1 dX8_sheet_8 (by decide) ?_
    refine lv_iconst (v := 1) F.1 F.2.1 dX8_sheet_9 (by decide) ?_
    refine g_I I (run_S (As := [.int a2, .int (-1 : Int32), .int (1 : Int32)]) (rest := []) F I kX8_79 (ctX8_in h) ⟨rfl, rfl⟩ ⟨Nat.le_of_ble_eq_true rfl, Nat.le_of_ble_eq_true rfl⟩ rfl hl.1 rfl (Nat.le_of_ble_eq_true rfl) ⟨Nat.le_of_ble_eq_true rfl, Nat.le_of_ble_eq_true rfl⟩ dX8_sheet_10) (fun z10 S H locs I h => ?_)
    refine r_if_eq (tgt := 26) F dX8_sheet_13 (by decide) h (fun h => ?_) (fun h => ?_)
    · exact hj_26 S _ _ _   h I (lv_sub hl [] rfl)
    · refine lv_iload_n F.1 F.2.1 dX8_sheet_16 rfl (lv_at hl 2 rfl) ?_
      refine r_if_lt (tgt := 29) F dX8_sheet_17 (by decide) h (fun h => ?_) (fun h => ?_)
      · exact hj_29 S _ _ _ a0 a1 a2 a3 hr_a0 hk_a0 h I (lv_sub hl [0, 1, 2, 3] rfl)
      · refine lv_iload_n F.1 F.2.1 dX8_sheet_20 rfl (lv_at hl 3 rfl) ?_
        refine lv_bipush (v := 24) F.1 F.2.1 dX8_sheet_21 (by decide) ?_
        refine r_icmp_le (tgt := 29) F dX8_sheet_23 (by decide) h (fun h => ?_) (fun h => ?_)
        · exact hj_29 S _ _ _ a0 a1 a2 a3 hr_a0 hk_a0 h I (lv_sub hl [0, 1, 2, 3] rfl)
        · exact hj_26 S _ _ _   h I (lv_sub hl [] rfl)
theorem bdX8_mark_0 : ∀ q ∈ ([(0, .iload_n 1, 1), (1, .invokestatic 182, 3), (4, .ifCond .ne 6, 3), (7, .ldc 98, 2), (9, .ireturn, 1), (10, .aload_n 0, 1), (11, .getfield 51, 3), (14, .iload_n 1, 1), (15, .iaload, 1), (16, .ifCond .ge 6, 3), (19, .ldc 185, 2), (21, .ireturn, 1), (22, .iload_n 2, 1), (23, .iconst 0, 1), (24, .aload_n 0, 1), (25, .getfield 54, 3), (28, .iload_n 1, 1), (29, .iaload, 1), (30, .iconst 1, 1), (31, .isub, 1), (32, .invokestatic 79, 3), (35, .ifCond .ne 7, 3), (38, .ldc_w 259, 3), (41, .ireturn, 1), (42, .aload_n 0, 1), (43, .getfield 51, 3), (46, .iload_n 1, 1), (47, .iaload, 1), (48, .ifCond .ne 12, 3), (51, .iload_n 3, 1), (52, .ldc 78, 2), (54, .if_icmp .ne 6, 3), (57, .ldc 140, 2), (59, .ireturn, 1), (60, .aload_n 0, 1), (61, .getfield 51, 3), (64, .iload_n 1, 1), (65, .iaload, 1), (66, .iconst 1, 1), (67, .if_icmp .ne 25, 3)] : List (Nat × Jvm.ClassFile.Instr × Nat)), decode cX8_mark q.1 = .ok q.2 := chk_ok _ 0 _ rfl (by decide +kernel)
theorem dX8_mark_0 : decode cX8_mark 0 = .ok (.iload_n 1, 1) := bdX8_mark_0 (0, .iload_n 1, 1) (List.mem_of_getElem? (i := 0) rfl)
theorem dX8_mark_1 : decode cX8_mark 1 = .ok (.invokestatic 182, 3) := bdX8_mark_0 (1, .invokestatic 182, 3) (List.mem_of_getElem? (i := 1) rfl)
theorem dX8_mark_4 : decode cX8_mark 4 = .ok (.ifCond .ne 6, 3) := bdX8_mark_0 (4, .ifCond .ne 6, 3) (List.mem_of_getElem? (i := 2) rfl)
theorem dX8_mark_7 : decode cX8_mark 7 = .ok (.ldc 98, 2) := bdX8_mark_0 (7, .ldc 98, 2) (List.mem_of_getElem? (i := 3) rfl)
theorem dX8_mark_9 : decode cX8_mark 9 = .ok (.ireturn, 1) := bdX8_mark_0 (9, .ireturn, 1) (List.mem_of_getElem? (i := 4) rfl)
theorem dX8_mark_10 : decode cX8_mark 10 = .ok (.aload_n 0, 1) := bdX8_mark_0 (10, .aload_n 0, 1) (List.mem_of_getElem? (i := 5) rfl)
theorem dX8_mark_11 : decode cX8_mark 11 = .ok (.getfield 51, 3) := bdX8_mark_0 (11, .getfield 51, 3) (List.mem_of_getElem? (i := 6) rfl)
theorem dX8_mark_14 : decode cX8_mark 14 = .ok (.iload_n 1, 1) := bdX8_mark_0 (14, .iload_n 1, 1) (List.mem_of_getElem? (i := 7) rfl)
theorem dX8_mark_15 : decode cX8_mark 15 = .ok (.iaload, 1) := bdX8_mark_0 (15, .iaload, 1) (List.mem_of_getElem? (i := 8) rfl)
theorem dX8_mark_16 : decode cX8_mark 16 = .ok (.ifCond .ge 6, 3) := bdX8_mark_0 (16, .ifCond .ge 6, 3) (List.mem_of_getElem? (i := 9) rfl)
theorem dX8_mark_19 : decode cX8_mark 19 = .ok (.ldc 185, 2) := bdX8_mark_0 (19, .ldc 185, 2) (List.mem_of_getElem? (i := 10) rfl)
theorem dX8_mark_21 : decode cX8_mark 21 = .ok (.ireturn, 1) := bdX8_mark_0 (21, .ireturn, 1) (List.mem_of_getElem? (i := 11) rfl)
theorem dX8_mark_22 : decode cX8_mark 22 = .ok (.iload_n 2, 1) := bdX8_mark_0 (22, .iload_n 2, 1) (List.mem_of_getElem? (i := 12) rfl)
theorem dX8_mark_23 : decode cX8_mark 23 = .ok (.iconst 0, 1) := bdX8_mark_0 (23, .iconst 0, 1) (List.mem_of_getElem? (i := 13) rfl)
theorem dX8_mark_24 : decode cX8_mark 24 = .ok (.aload_n 0, 1) := bdX8_mark_0 (24, .aload_n 0, 1) (List.mem_of_getElem? (i := 14) rfl)
theorem dX8_mark_25 : decode cX8_mark 25 = .ok (.getfield 54, 3) := bdX8_mark_0 (25, .getfield 54, 3) (List.mem_of_getElem? (i := 15) rfl)
theorem dX8_mark_28 : decode cX8_mark 28 = .ok (.iload_n 1, 1) := bdX8_mark_0 (28, .iload_n 1, 1) (List.mem_of_getElem? (i := 16) rfl)
theorem dX8_mark_29 : decode cX8_mark 29 = .ok (.iaload, 1) := bdX8_mark_0 (29, .iaload, 1) (List.mem_of_getElem? (i := 17) rfl)
theorem dX8_mark_30 : decode cX8_mark 30 = .ok (.iconst 1, 1) := bdX8_mark_0 (30, .iconst 1, 1) (List.mem_of_getElem? (i := 18) rfl)
theorem dX8_mark_31 : decode cX8_mark 31 = .ok (.isub, 1) := bdX8_mark_0 (31, .isub, 1) (List.mem_of_getElem? (i := 19) rfl)
theorem dX8_mark_32 : decode cX8_mark 32 = .ok (.invokestatic 79, 3) := bdX8_mark_0 (32, .invokestatic 79, 3) (List.mem_of_getElem? (i := 20) rfl)
theorem dX8_mark_35 : decode cX8_mark 35 = .ok (.ifCond .ne 7, 3) := bdX8_mark_0 (35, .ifCond .ne 7, 3) (List.mem_of_getElem? (i := 21) rfl)
theorem dX8_mark_38 : decode cX8_mark 38 = .ok (.ldc_w 259, 3) := bdX8_mark_0 (38, .ldc_w 259, 3) (List.mem_of_getElem? (i := 22) rfl)
theorem dX8_mark_41 : decode cX8_mark 41 = .ok (.ireturn, 1) := bdX8_mark_0 (41, .ireturn, 1) (List.mem_of_getElem? (i := 23) rfl)
theorem dX8_mark_42 : decode cX8_mark 42 = .ok (.aload_n 0, 1) := bdX8_mark_0 (42, .aload_n 0, 1) (List.mem_of_getElem? (i := 24) rfl)
theorem dX8_mark_43 : decode cX8_mark 43 = .ok (.getfield 51, 3) := bdX8_mark_0 (43, .getfield 51, 3) (List.mem_of_getElem? (i := 25) rfl)
theorem dX8_mark_46 : decode cX8_mark 46 = .ok (.iload_n 1, 1) := bdX8_mark_0 (46, .iload_n 1, 1) (List.mem_of_getElem? (i := 26) rfl)
theorem dX8_mark_47 : decode cX8_mark 47 = .ok (.iaload, 1) := bdX8_mark_0 (47, .iaload, 1) (List.mem_of_getElem? (i := 27) rfl)
theorem dX8_mark_48 : decode cX8_mark 48 = .ok (.ifCond .ne 12, 3) := bdX8_mark_0 (48, .ifCond .ne 12, 3) (List.mem_of_getElem? (i := 28) rfl)
theorem dX8_mark_51 : decode cX8_mark 51 = .ok (.iload_n 3, 1) := bdX8_mark_0 (51, .iload_n 3, 1) (List.mem_of_getElem? (i := 29) rfl)
theorem dX8_mark_52 : decode cX8_mark 52 = .ok (.ldc 78, 2) := bdX8_mark_0 (52, .ldc 78, 2) (List.mem_of_getElem? (i := 30) rfl)
theorem dX8_mark_54 : decode cX8_mark 54 = .ok (.if_icmp .ne 6, 3) := bdX8_mark_0 (54, .if_icmp .ne 6, 3) (List.mem_of_getElem? (i := 31) rfl)
theorem dX8_mark_57 : decode cX8_mark 57 = .ok (.ldc 140, 2) := bdX8_mark_0 (57, .ldc 140, 2) (List.mem_of_getElem? (i := 32) rfl)
theorem dX8_mark_59 : decode cX8_mark 59 = .ok (.ireturn, 1) := bdX8_mark_0 (59, .ireturn, 1) (List.mem_of_getElem? (i := 33) rfl)
theorem dX8_mark_60 : decode cX8_mark 60 = .ok (.aload_n 0, 1) := bdX8_mark_0 (60, .aload_n 0, 1) (List.mem_of_getElem? (i := 34) rfl)
theorem dX8_mark_61 : decode cX8_mark 61 = .ok (.getfield 51, 3) := bdX8_mark_0 (61, .getfield 51, 3) (List.mem_of_getElem? (i := 35) rfl)
theorem dX8_mark_64 : decode cX8_mark 64 = .ok (.iload_n 1, 1) := bdX8_mark_0 (64, .iload_n 1, 1) (List.mem_of_getElem? (i := 36) rfl)
theorem dX8_mark_65 : decode cX8_mark 65 = .ok (.iaload, 1) := bdX8_mark_0 (65, .iaload, 1) (List.mem_of_getElem? (i := 37) rfl)
theorem dX8_mark_66 : decode cX8_mark 66 = .ok (.iconst 1, 1) := bdX8_mark_0 (66, .iconst 1, 1) (List.mem_of_getElem? (i := 38) rfl)
theorem dX8_mark_67 : decode cX8_mark 67 = .ok (.if_icmp .ne 25, 3) := bdX8_mark_0 (67, .if_icmp .ne 25, 3) (List.mem_of_getElem? (i := 39) rfl)
theorem bdX8_mark_70 : ∀ q ∈ ([(70, .iload_n 3, 1), (71, .ldc 78, 2), (73, .if_icmp .eq 19, 3), (76, .iload_n 3, 1), (77, .ldc_w 260, 3), (80, .ldc_w 261, 3), (83, .invokestatic 79, 3), (86, .ifCond .ne 6, 3), (89, .ldc 98, 2), (91, .ireturn, 1), (92, .aload_n 0, 1), (93, .getfield 57, 3), (96, .bipush 24, 2), (98, .iload_n 1, 1), (99, .imul, 1), (100, .iload_n 2, 1), (101, .iadd, 1), (102, .aload_n 0, 1), (103, .getfield 51, 3), (106, .iload_n 1, 1), (107, .iaload, 1), (108, .ifCond .ne 8, 3), (111, .iload_n 3, 1), (113, .goto 4, 3), (116, .iload_n 3, 1), (117, .iastore, 1), (118, .iconst 1, 1), (119, .ireturn, 1)] : List (Nat × Jvm.ClassFile.Instr × Nat)), decode cX8_mark q.1 = .ok q.2 := chk_ok _ 70 _ rfl (by decide +kernel)
theorem dX8_mark_70 : decode cX8_mark 70 = .ok (.iload_n 3, 1) := bdX8_mark_70 (70, .iload_n 3, 1) (List.mem_of_getElem? (i := 0) rfl)
theorem dX8_mark_71 : decode cX8_mark 71 = .ok (.ldc 78, 2) := bdX8_mark_70 (71, .ldc 78, 2) (List.mem_of_getElem? (i := 1) rfl)
theorem dX8_mark_73 : decode cX8_mark 73 = .ok (.if_icmp .eq 19, 3) := bdX8_mark_70 (73, .if_icmp .eq 19, 3) (List.mem_of_getElem? (i := 2) rfl)
theorem dX8_mark_76 : decode cX8_mark 76 = .ok (.iload_n 3, 1) := bdX8_mark_70 (76, .iload_n 3, 1) (List.mem_of_getElem? (i := 3) rfl)
theorem dX8_mark_77 : decode cX8_mark 77 = .ok (.ldc_w 260, 3) := bdX8_mark_70 (77, .ldc_w 260, 3) (List.mem_of_getElem? (i := 4) rfl)
theorem dX8_mark_80 : decode cX8_mark 80 = .ok (.ldc_w 261, 3) := bdX8_mark_70 (80, .ldc_w 261, 3) (List.mem_of_getElem? (i := 5) rfl)
theorem dX8_mark_83 : decode cX8_mark 83 = .ok (.invokestatic 79, 3) := bdX8_mark_70 (83, .invokestatic 79, 3) (List.mem_of_getElem? (i := 6) rfl)
theorem dX8_mark_86 : decode cX8_mark 86 = .ok (.ifCond .ne 6, 3) := bdX8_mark_70 (86, .ifCond .ne 6, 3) (List.mem_of_getElem? (i := 7) rfl)
theorem dX8_mark_89 : decode cX8_mark 89 = .ok (.ldc 98, 2) := bdX8_mark_70 (89, .ldc 98, 2) (List.mem_of_getElem? (i := 8) rfl)
theorem dX8_mark_91 : decode cX8_mark 91 = .ok (.ireturn, 1) := bdX8_mark_70 (91, .ireturn, 1) (List.mem_of_getElem? (i := 9) rfl)
theorem dX8_mark_92 : decode cX8_mark 92 = .ok (.aload_n 0, 1) := bdX8_mark_70 (92, .aload_n 0, 1) (List.mem_of_getElem? (i := 10) rfl)
theorem dX8_mark_93 : decode cX8_mark 93 = .ok (.getfield 57, 3) := bdX8_mark_70 (93, .getfield 57, 3) (List.mem_of_getElem? (i := 11) rfl)
theorem dX8_mark_96 : decode cX8_mark 96 = .ok (.bipush 24, 2) := bdX8_mark_70 (96, .bipush 24, 2) (List.mem_of_getElem? (i := 12) rfl)
theorem dX8_mark_98 : decode cX8_mark 98 = .ok (.iload_n 1, 1) := bdX8_mark_70 (98, .iload_n 1, 1) (List.mem_of_getElem? (i := 13) rfl)
theorem dX8_mark_99 : decode cX8_mark 99 = .ok (.imul, 1) := bdX8_mark_70 (99, .imul, 1) (List.mem_of_getElem? (i := 14) rfl)
theorem dX8_mark_100 : decode cX8_mark 100 = .ok (.iload_n 2, 1) := bdX8_mark_70 (100, .iload_n 2, 1) (List.mem_of_getElem? (i := 15) rfl)
theorem dX8_mark_101 : decode cX8_mark 101 = .ok (.iadd, 1) := bdX8_mark_70 (101, .iadd, 1) (List.mem_of_getElem? (i := 16) rfl)
theorem dX8_mark_102 : decode cX8_mark 102 = .ok (.aload_n 0, 1) := bdX8_mark_70 (102, .aload_n 0, 1) (List.mem_of_getElem? (i := 17) rfl)
theorem dX8_mark_103 : decode cX8_mark 103 = .ok (.getfield 51, 3) := bdX8_mark_70 (103, .getfield 51, 3) (List.mem_of_getElem? (i := 18) rfl)
theorem dX8_mark_106 : decode cX8_mark 106 = .ok (.iload_n 1, 1) := bdX8_mark_70 (106, .iload_n 1, 1) (List.mem_of_getElem? (i := 19) rfl)
theorem dX8_mark_107 : decode cX8_mark 107 = .ok (.iaload, 1) := bdX8_mark_70 (107, .iaload, 1) (List.mem_of_getElem? (i := 20) rfl)
theorem dX8_mark_108 : decode cX8_mark 108 = .ok (.ifCond .ne 8, 3) := bdX8_mark_70 (108, .ifCond .ne 8, 3) (List.mem_of_getElem? (i := 21) rfl)
theorem dX8_mark_111 : decode cX8_mark 111 = .ok (.iload_n 3, 1) := bdX8_mark_70 (111, .iload_n 3, 1) (List.mem_of_getElem? (i := 22) rfl)
theorem dX8_mark_113 : decode cX8_mark 113 = .ok (.goto 4, 3) := bdX8_mark_70 (113, .goto 4, 3) (List.mem_of_getElem? (i := 23) rfl)
theorem dX8_mark_116 : decode cX8_mark 116 = .ok (.iload_n 3, 1) := bdX8_mark_70 (116, .iload_n 3, 1) (List.mem_of_getElem? (i := 24) rfl)
theorem dX8_mark_117 : decode cX8_mark 117 = .ok (.iastore, 1) := bdX8_mark_70 (117, .iastore, 1) (List.mem_of_getElem? (i := 25) rfl)
theorem dX8_mark_118 : decode cX8_mark 118 = .ok (.iconst 1, 1) := bdX8_mark_70 (118, .iconst 1, 1) (List.mem_of_getElem? (i := 26) rfl)
theorem dX8_mark_119 : decode cX8_mark 119 = .ok (.ireturn, 1) := bdX8_mark_70 (119, .ireturn, 1) (List.mem_of_getElem? (i := 27) rfl)
theorem dX8_mark_112 : decode cX8_mark 112 = .ok (.i2s, 1) := by decide +kernel
def BX8_mark_117 (ln : Nat → Nat) (post : Int32 → HC → Prop) (S : HC) (t0 : Nat) (t1 : Int32) (t2 : Int32) : Prop := as_ (ln t0) t1 (fun j => sI S t0 j t2) fun S => post (1 : Int32) S
def BX8_mark_92 (ln : Nat → Nat) (post : Int32 → HC → Prop) (S : HC) (x0 : Nat) (x1 : Int32) (x2 : Int32) (x3 : Int32) : Prop := dn_ (hR S x0 26) fun b1 => lt_ ((24 : Int32) * x1) fun z2 => lt_ (z2 + x2) fun z3 => dn_ (hR S x0 24) fun b4 => al_ (ln b4) x1 (hI S b4) fun z5 => if z5 = 0 then (lt_ (x3.toInt16.toInt32) fun z6 => BX8_mark_117 ln post S b1 z3 z6) else (BX8_mark_117 ln post S b1 z3 x3)
def BX8_mark_60 (ln : Nat → Nat) (post : Int32 → HC → Prop) (S : HC) (x0 : Nat) (x1 : Int32) (x2 : Int32) (x3 : Int32) : Prop := dn_ (hR S x0 24) fun b7 => al_ (ln b7) x1 (hI S b7) fun z8 => if z8 = (1 : Int32) then (if x3 = (-1000000005 : Int32) then (BX8_mark_92 ln post S x0 x1 x2 x3) else (wpX8_in ln S x3 (-99999 : Int32) (99999 : Int32) fun z9 S => if z9 = 0 then (post (-1000000001 : Int32) S) else (BX8_mark_92 ln post S x0 x1 x2 x3))) else (BX8_mark_92 ln post S x0 x1 x2 x3)
def wpX8_mark (ln : Nat → Nat) (S : HC) (a0 : Nat) (a1 : Int32) (a2 : Int32) (a3 : Int32) (post : Int32 → HC → Prop) : Prop := wpX8_isSheet ln S a1 fun z10 S => if z10 = 0 then (post (-1000000001 : Int32) S) else (dn_ (hR S a0 24) fun b11 => al_ (ln b11) a1 (hI S b11) fun z12 => if 0 ≤ z12 then (dn_ (hR S a0 25) fun b13 => al_ (ln b13) a1 (hI S b13) fun z14 => lt_ (z14 - (1 : Int32)) fun z15 => wpX8_in ln S a2 (0 : Int32) z15 fun z16 S => if z16 = 0 then (post (-1000000013 : Int32) S) else (dn_ (hR S a0 24) fun b17 => al_ (ln b17) a1 (hI S b17) fun z18 => if z18 = 0 then (if a3 = (-1000000005 : Int32) then (post (-1000000012 : Int32) S) else (BX8_mark_60 ln post S a0 a1 a2 a3)) else (BX8_mark_60 ln post S a0 a1 a2 a3))) else (post (-1000000011 : Int32) S))
abbrev rmX8_mark : Room := { frames := 2, cells := 0, slots := 0, locals := 42 }
set_option maxHeartbeats 4000000 in
set_option maxRecDepth 100000 in
theorem ctX8_mark {l : Launch} {g : GX} {N : Nat} {ln : Nat → Nat} {S : HC} {a0 : Nat} {a1 : Int32} {a2 : Int32} {a3 : Int32} {post : Int32 → HC → Prop} (hr_a0 : a0 < N) (hk_a0 : kd a0 = 8) (h : wpX8_mark ln S a0 a1 a2 a3 post) : Met l yX8_mark (Cond.code yX8_mark prog_10_method_76_code 4 (Option.some Jvm.ClassFile.FieldType.int) :: gtbl) rmX8_mark (va_Pc [.ref (gz g + a0), .int a1, .int a2, .int a3] (AtP g N ln S)) (QI g N ln post) 0 0 (gF g) := by
  refine m_of (by decide) (Nat.le_of_ble_eq_true rfl) ?_
  intro p e s m below meth c ls F hr I hl
  have hl : lv_has ls 4 [(0, .ref (gz g + a0)), (1, .int a1), (2, .int a2), (3, .int a3)] := hl
  unfold wpX8_mark at h
  have hj_117 : ∀ (S : HC) (H : Heap) (locs : List Loc) (ls : Array Slot) (t0 : Nat) (t1 : Int32) (t2 : Int32), t0 < N → kd t0 = 9 → BX8_mark_117 ln post S t0 t1 t2 → Inv g N ln S s H locs → lv_has ls 4 [] → W p l e rmX8_mark s m ([.ref (gz g + a0), .int a1, .int a2, .int a3] : List Value).toArray below meth c H locs 0 0 (MQ below (QI g N ln post) ([.ref (gz g + a0), .int a1, .int a2, .int a3] : List Value).toArray s 0 0 (gF g)) (F0 m 117 ls [.int t2, .int t1, .ref (gz g + t0)]) := by
    intro S H locs ls t0 t1 t2 hr_t0 hk_t0 h I hl
    unfold BX8_mark_117 at h
    refine r_ast F I hr_t0 hk_t0 dX8_mark_117 h (fun S H locs I h => ?_)
    refine lv_iconst (v := 1) F.1 F.2.1 dX8_mark_118 (by decide) ?_
    exact r_ireturn F I ⟨hr.1, hr.2.1, trivial⟩ h dX8_mark_119
  have hj_92 : ∀ (S : HC) (H : Heap) (locs : List Loc) (ls : Array Slot) (x0 : Nat) (x1 : Int32) (x2 : Int32) (x3 : Int32), x0 < N → kd x0 = 8 → BX8_mark_92 ln post S x0 x1 x2 x3 → Inv g N ln S s H locs → lv_has ls 4 [(0, .ref (gz g + x0)), (1, .int x1), (2, .int x2), (3, .int x3)] → W p l e rmX8_mark s m ([.ref (gz g + a0), .int a1, .int a2, .int a3] : List Value).toArray below meth c H locs 0 0 (MQ below (QI g N ln post) ([.ref (gz g + a0), .int a1, .int a2, .int a3] : List Value).toArray s 0 0 (gF g)) (F0 m 92 ls []) := by
    intro S H locs ls x0 x1 x2 x3 hr_x0 hk_x0 h I hl
    unfold BX8_mark_92 at h
    refine lv_aload_n F.1 F.2.1 dX8_mark_92 rfl (lv_at hl 0 rfl) ?_
    refine r_getN F I hr_x0 hk_x0 fX8_57 (f := 9) rfl (by decide) dX8_mark_93 h (fun b1 hr_b1 hk_b1 h => ?_)
    refine lv_bipush (v := 24) F.1 F.2.1 dX8_mark_96 (by decide) ?_
    refine lv_iload_n F.1 F.2.1 dX8_mark_98 rfl (lv_at hl 1 rfl) ?_
    refine r_imul F dX8_mark_99 h (fun z2 h => ?_)
    refine lv_iload_n F.1 F.2.1 dX8_mark_100 rfl (lv_at hl 2 rfl) ?_
    refine r_iadd F dX8_mark_101 h (fun z3 h => ?_)
    refine lv_aload_n F.1 F.2.1 dX8_mark_102 rfl (lv_at hl 0 rfl) ?_
    refine r_getN F I hr_x0 hk_x0 fX8_51 (f := 9) rfl (by decide) dX8_mark_103 h (fun b4 hr_b4 hk_b4 h => ?_)
    refine lv_iload_n F.1 F.2.1 dX8_mark_106 rfl (lv_at hl 1 rfl) ?_
    refine r_ald F I hr_b4 hk_b4 dX8_mark_107 h (fun z5 h => ?_)
    refine r_if_ne (tgt := 116) F dX8_mark_108 (by decide) h (fun h => ?_) (fun h => ?_)
    · refine lv_iload_n F.1 F.2.1 dX8_mark_116 rfl (lv_at hl 3 rfl) ?_
      exact hj_117 S _ _ _ b1 z3 x3 hr_b1 hk_b1 h I (lv_sub hl [] rfl)
    · refine lv_iload_n F.1 F.2.1 dX8_mark_111 rfl (lv_at hl 3 rfl) ?_
      refine r_i2s F dX8_mark_112 h (fun z6 h => ?_)
      refine lv_goto (tgt := 117) F.1 F.2.1 dX8_mark_113 (by decide) ?_
      exact hj_117 S _ _ _ b1 z3 z6 hr_b1 hk_b1 h I (lv_sub hl [] rfl)
  have hj_60 : ∀ (S : HC) (H : Heap) (locs : List Loc) (ls : Array Slot) (x0 : Nat) (x1 : Int32) (x2 : Int32) (x3 : Int32), x0 < N → kd x0 = 8 → BX8_mark_60 ln post S x0 x1 x2 x3 → Inv g N ln S s H locs → lv_has ls 4 [(0, .ref (gz g + x0)), (1, .int x1), (2, .int x2), (3, .int x3)] → W p l e rmX8_mark s m ([.ref (gz g + a0), .int a1, .int a2, .int a3] : List Value).toArray below meth c H locs 0 0 (MQ below (QI g N ln post) ([.ref (gz g + a0), .int a1, .int a2, .int a3] : List Value).toArray s 0 0 (gF g)) (F0 m 60 ls []) := by
    intro S H locs ls x0 x1 x2 x3 hr_x0 hk_x0 h I hl
    unfold BX8_mark_60 at h
    refine lv_aload_n F.1 F.2.1 dX8_mark_60 rfl (lv_at hl 0 rfl) ?_
    refine r_getN F I hr_x0 hk_x0 fX8_51 (f := 9) rfl (by decide) dX8_mark_61 h (fun b7 hr_b7 hk_b7 h => ?_)
    refine lv_iload_n F.1 F.2.1 dX8_mark_64 rfl (lv_at hl 1 rfl) ?_
    refine r_ald F I hr_b7 hk_b7 dX8_mark_65 h (fun z8 h => ?_)
    refine lv_iconst (v := 1) F.1 F.2.1 dX8_mark_66 (by decide) ?_
    refine r_icmp_ne (tgt := 92) F dX8_mark_67 (by decide) h (fun h => ?_) (fun h => ?_)
    · exact hj_92 S _ _ _ x0 x1 x2 x3 hr_x0 hk_x0 h I (lv_sub hl [0, 1, 2, 3] rfl)
    · refine lv_iload_n F.1 F.2.1 dX8_mark_70 rfl (lv_at hl 3 rfl) ?_
      refine lv_ldc F.1 F.2.1 F.2.2.2.1 (F.2.2.2.2 _ tw_1208) dX8_mark_71 ?_
      refine r_icmp_eq (tgt := 92) F dX8_mark_73 (by decide) h (fun h => ?_) (fun h => ?_)
      · exact hj_92 S _ _ _ x0 x1 x2 x3 hr_x0 hk_x0 h I (lv_sub hl [0, 1, 2, 3] rfl)
      · refine lv_iload_n F.1 F.2.1 dX8_mark_76 rfl (lv_at hl 3 rfl) ?_
        refine lv_ldcw F.1 F.2.1 F.2.2.2.1 (F.2.2.2.2 _ tw_1334) dX8_mark_77 ?_
        refine lv_ldcw F.1 F.2.1 F.2.2.2.1 (F.2.2.2.2 _ tw_1335) dX8_mark_80 ?_
        refine g_I I (run_S (As := [.int x3, .int (-99999 : Int32), .int (99999 : Int32)]) (rest := []) F I kX8_79 (ctX8_in h) ⟨rfl, rfl⟩ ⟨Nat.le_of_ble_eq_true rfl, Nat.le_of_ble_eq_true rfl⟩ rfl hl.1 rfl (Nat.le_of_ble_eq_true rfl) ⟨Nat.le_of_ble_eq_true rfl, Nat.le_of_ble_eq_true rfl⟩ dX8_mark_83) (fun z9 S H locs I h => ?_)
        refine r_if_ne (tgt := 92) F dX8_mark_86 (by decide) h (fun h => ?_) (fun h => ?_)
        · exact hj_92 S _ _ _ x0 x1 x2 x3 hr_x0 hk_x0 h I (lv_sub hl [0, 1, 2, 3] rfl)
        · refine lv_ldc F.1 F.2.1 F.2.2.2.1 (F.2.2.2.2 _ tw_1064) dX8_mark_89 ?_
          exact r_ireturn F I ⟨hr.1, hr.2.1, trivial⟩ h dX8_mark_91
  refine lv_iload_n F.1 F.2.1 dX8_mark_0 rfl (lv_at hl 1 rfl) ?_
  refine g_I I (run_S (As := [.int a1]) (rest := []) F I kX8_182 (ctX8_isSheet h) ⟨rfl, rfl⟩ ⟨Nat.le_of_ble_eq_true rfl, Nat.le_of_ble_eq_true rfl⟩ rfl hl.1 rfl (Nat.le_of_ble_eq_true rfl) ⟨Nat.le_of_ble_eq_true rfl, Nat.le_of_ble_eq_true rfl⟩ dX8_mark_1) (fun z10 S H locs I h => ?_)
  refine r_if_ne (tgt := 10) F dX8_mark_4 (by decide) h (fun h => ?_) (fun h => ?_)
  · refine lv_aload_n F.1 F.2.1 dX8_mark_10 rfl (lv_at hl 0 rfl) ?_
    refine r_getN F I hr_a0 hk_a0 fX8_51 (f := 9) rfl (by decide) dX8_mark_11 h (fun b11 hr_b11 hk_b11 h => ?_)
    refine lv_iload_n F.1 F.2.1 dX8_mark_14 rfl (lv_at hl 1 rfl) ?_
    refine r_ald F I hr_b11 hk_b11 dX8_mark_15 h (fun z12 h => ?_)
    refine r_if_ge (tgt := 22) F dX8_mark_16 (by decide) h (fun h => ?_) (fun h => ?_)
    · refine lv_iload_n F.1 F.2.1 dX8_mark_22 rfl (lv_at hl 2 rfl) ?_
      refine lv_iconst (v := 0) F.1 F.2.1 dX8_mark_23 (by decide) ?_
      refine lv_aload_n F.1 F.2.1 dX8_mark_24 rfl (lv_at hl 0 rfl) ?_
      refine r_getN F I hr_a0 hk_a0 fX8_54 (f := 9) rfl (by decide) dX8_mark_25 h (fun b13 hr_b13 hk_b13 h => ?_)
      refine lv_iload_n F.1 F.2.1 dX8_mark_28 rfl (lv_at hl 1 rfl) ?_
      refine r_ald F I hr_b13 hk_b13 dX8_mark_29 h (fun z14 h => ?_)
      refine lv_iconst (v := 1) F.1 F.2.1 dX8_mark_30 (by decide) ?_
      refine r_isub F dX8_mark_31 h (fun z15 h => ?_)
      refine g_I I (run_S (As := [.int a2, .int (0 : Int32), .int z15]) (rest := []) F I kX8_79 (ctX8_in h) ⟨rfl, rfl⟩ ⟨Nat.le_of_ble_eq_true rfl, Nat.le_of_ble_eq_true rfl⟩ rfl hl.1 rfl (Nat.le_of_ble_eq_true rfl) ⟨Nat.le_of_ble_eq_true rfl, Nat.le_of_ble_eq_true rfl⟩ dX8_mark_32) (fun z16 S H locs I h => ?_)
      refine r_if_ne (tgt := 42) F dX8_mark_35 (by decide) h (fun h => ?_) (fun h => ?_)
      · refine lv_aload_n F.1 F.2.1 dX8_mark_42 rfl (lv_at hl 0 rfl) ?_
        refine r_getN F I hr_a0 hk_a0 fX8_51 (f := 9) rfl (by decide) dX8_mark_43 h (fun b17 hr_b17 hk_b17 h => ?_)
        refine lv_iload_n F.1 F.2.1 dX8_mark_46 rfl (lv_at hl 1 rfl) ?_
        refine r_ald F I hr_b17 hk_b17 dX8_mark_47 h (fun z18 h => ?_)
        refine r_if_ne (tgt := 60) F dX8_mark_48 (by decide) h (fun h => ?_) (fun h => ?_)
        · exact hj_60 S _ _ _ a0 a1 a2 a3 hr_a0 hk_a0 h I (lv_sub hl [0, 1, 2, 3] rfl)
        · refine lv_iload_n F.1 F.2.1 dX8_mark_51 rfl (lv_at hl 3 rfl) ?_
          refine lv_ldc F.1 F.2.1 F.2.2.2.1 (F.2.2.2.2 _ tw_1208) dX8_mark_52 ?_
          refine r_icmp_ne (tgt := 60) F dX8_mark_54 (by decide) h (fun h => ?_) (fun h => ?_)
          · exact hj_60 S _ _ _ a0 a1 a2 a3 hr_a0 hk_a0 h I (lv_sub hl [0, 1, 2, 3] rfl)
          · refine lv_ldc F.1 F.2.1 F.2.2.2.1 (F.2.2.2.2 _ tw_1127) dX8_mark_57 ?_
            exact r_ireturn F I ⟨hr.1, hr.2.1, trivial⟩ h dX8_mark_59
      · refine lv_ldcw F.1 F.2.1 F.2.2.2.1 (F.2.2.2.2 _ tw_1333) dX8_mark_38 ?_
        exact r_ireturn F I ⟨hr.1, hr.2.1, trivial⟩ h dX8_mark_41
    · refine lv_ldc F.1 F.2.1 F.2.2.2.1 (F.2.2.2.2 _ tw_1248) dX8_mark_19 ?_
      exact r_ireturn F I ⟨hr.1, hr.2.1, trivial⟩ h dX8_mark_21
  · refine lv_ldc F.1 F.2.1 F.2.2.2.1 (F.2.2.2.2 _ tw_1064) dX8_mark_7 ?_
    exact r_ireturn F I ⟨hr.1, hr.2.1, trivial⟩ h dX8_mark_9
theorem bdX8_pour_0 : ∀ q ∈ ([(0, .iload_n 1, 1), (1, .invokestatic 182, 3), (4, .ifCond .ne 6, 3), (7, .ldc 98, 2), (9, .ireturn, 1), (10, .aload_n 0, 1), (11, .getfield 51, 3), (14, .iload_n 1, 1), (15, .iaload, 1), (16, .ifCond .ge 6, 3), (19, .ldc 185, 2), (21, .ireturn, 1), (22, .iconst 0, 1), (23, .istore_n 2, 1), (24, .iconst 0, 1), (25, .istore_n 3, 1), (26, .iload_n 3, 1), (27, .aload_n 0, 1), (28, .getfield 54, 3), (31, .iload_n 1, 1), (32, .iaload, 1), (33, .if_icmp .ge 85, 3), (36, .iload_n 3, 1), (37, .aload_n 0, 1), (38, .getfield 9, 3), (41, .iconst 1, 1), (42, .iaload, 1), (43, .if_icmp .ge 75, 3), (46, .aload_n 0, 1), (47, .getfield 57, 3), (50, .bipush 24, 2), (52, .iload_n 1, 1), (53, .imul, 1), (54, .iload_n 3, 1), (55, .iadd, 1), (56, .iaload, 1), (57, .istore 4, 2), (59, .iload 4, 2), (61, .ldc 78, 2), (63, .if_icmp .ne 12, 3)] : List (Nat × Jvm.ClassFile.Instr × Nat)), decode cX8_pour q.1 = .ok q.2 := chk_ok _ 0 _ rfl (by decide +kernel)
theorem dX8_pour_0 : decode cX8_pour 0 = .ok (.iload_n 1, 1) := bdX8_pour_0 (0, .iload_n 1, 1) (List.mem_of_getElem? (i := 0) rfl)
theorem dX8_pour_1 : decode cX8_pour 1 = .ok (.invokestatic 182, 3) := bdX8_pour_0 (1, .invokestatic 182, 3) (List.mem_of_getElem? (i := 1) rfl)
theorem dX8_pour_4 : decode cX8_pour 4 = .ok (.ifCond .ne 6, 3) := bdX8_pour_0 (4, .ifCond .ne 6, 3) (List.mem_of_getElem? (i := 2) rfl)
theorem dX8_pour_7 : decode cX8_pour 7 = .ok (.ldc 98, 2) := bdX8_pour_0 (7, .ldc 98, 2) (List.mem_of_getElem? (i := 3) rfl)
theorem dX8_pour_9 : decode cX8_pour 9 = .ok (.ireturn, 1) := bdX8_pour_0 (9, .ireturn, 1) (List.mem_of_getElem? (i := 4) rfl)
theorem dX8_pour_10 : decode cX8_pour 10 = .ok (.aload_n 0, 1) := bdX8_pour_0 (10, .aload_n 0, 1) (List.mem_of_getElem? (i := 5) rfl)
theorem dX8_pour_11 : decode cX8_pour 11 = .ok (.getfield 51, 3) := bdX8_pour_0 (11, .getfield 51, 3) (List.mem_of_getElem? (i := 6) rfl)
theorem dX8_pour_14 : decode cX8_pour 14 = .ok (.iload_n 1, 1) := bdX8_pour_0 (14, .iload_n 1, 1) (List.mem_of_getElem? (i := 7) rfl)
theorem dX8_pour_15 : decode cX8_pour 15 = .ok (.iaload, 1) := bdX8_pour_0 (15, .iaload, 1) (List.mem_of_getElem? (i := 8) rfl)
theorem dX8_pour_16 : decode cX8_pour 16 = .ok (.ifCond .ge 6, 3) := bdX8_pour_0 (16, .ifCond .ge 6, 3) (List.mem_of_getElem? (i := 9) rfl)
theorem dX8_pour_19 : decode cX8_pour 19 = .ok (.ldc 185, 2) := bdX8_pour_0 (19, .ldc 185, 2) (List.mem_of_getElem? (i := 10) rfl)
theorem dX8_pour_21 : decode cX8_pour 21 = .ok (.ireturn, 1) := bdX8_pour_0 (21, .ireturn, 1) (List.mem_of_getElem? (i := 11) rfl)
theorem dX8_pour_22 : decode cX8_pour 22 = .ok (.iconst 0, 1) := bdX8_pour_0 (22, .iconst 0, 1) (List.mem_of_getElem? (i := 12) rfl)
theorem dX8_pour_23 : decode cX8_pour 23 = .ok (.istore_n 2, 1) := bdX8_pour_0 (23, .istore_n 2, 1) (List.mem_of_getElem? (i := 13) rfl)
theorem dX8_pour_24 : decode cX8_pour 24 = .ok (.iconst 0, 1) := bdX8_pour_0 (24, .iconst 0, 1) (List.mem_of_getElem? (i := 14) rfl)
theorem dX8_pour_25 : decode cX8_pour 25 = .ok (.istore_n 3, 1) := bdX8_pour_0 (25, .istore_n 3, 1) (List.mem_of_getElem? (i := 15) rfl)
theorem dX8_pour_26 : decode cX8_pour 26 = .ok (.iload_n 3, 1) := bdX8_pour_0 (26, .iload_n 3, 1) (List.mem_of_getElem? (i := 16) rfl)
theorem dX8_pour_27 : decode cX8_pour 27 = .ok (.aload_n 0, 1) := bdX8_pour_0 (27, .aload_n 0, 1) (List.mem_of_getElem? (i := 17) rfl)
theorem dX8_pour_28 : decode cX8_pour 28 = .ok (.getfield 54, 3) := bdX8_pour_0 (28, .getfield 54, 3) (List.mem_of_getElem? (i := 18) rfl)
theorem dX8_pour_31 : decode cX8_pour 31 = .ok (.iload_n 1, 1) := bdX8_pour_0 (31, .iload_n 1, 1) (List.mem_of_getElem? (i := 19) rfl)
theorem dX8_pour_32 : decode cX8_pour 32 = .ok (.iaload, 1) := bdX8_pour_0 (32, .iaload, 1) (List.mem_of_getElem? (i := 20) rfl)
theorem dX8_pour_33 : decode cX8_pour 33 = .ok (.if_icmp .ge 85, 3) := bdX8_pour_0 (33, .if_icmp .ge 85, 3) (List.mem_of_getElem? (i := 21) rfl)
theorem dX8_pour_36 : decode cX8_pour 36 = .ok (.iload_n 3, 1) := bdX8_pour_0 (36, .iload_n 3, 1) (List.mem_of_getElem? (i := 22) rfl)
theorem dX8_pour_37 : decode cX8_pour 37 = .ok (.aload_n 0, 1) := bdX8_pour_0 (37, .aload_n 0, 1) (List.mem_of_getElem? (i := 23) rfl)
theorem dX8_pour_38 : decode cX8_pour 38 = .ok (.getfield 9, 3) := bdX8_pour_0 (38, .getfield 9, 3) (List.mem_of_getElem? (i := 24) rfl)
theorem dX8_pour_41 : decode cX8_pour 41 = .ok (.iconst 1, 1) := bdX8_pour_0 (41, .iconst 1, 1) (List.mem_of_getElem? (i := 25) rfl)
theorem dX8_pour_42 : decode cX8_pour 42 = .ok (.iaload, 1) := bdX8_pour_0 (42, .iaload, 1) (List.mem_of_getElem? (i := 26) rfl)
theorem dX8_pour_43 : decode cX8_pour 43 = .ok (.if_icmp .ge 75, 3) := bdX8_pour_0 (43, .if_icmp .ge 75, 3) (List.mem_of_getElem? (i := 27) rfl)
theorem dX8_pour_46 : decode cX8_pour 46 = .ok (.aload_n 0, 1) := bdX8_pour_0 (46, .aload_n 0, 1) (List.mem_of_getElem? (i := 28) rfl)
theorem dX8_pour_47 : decode cX8_pour 47 = .ok (.getfield 57, 3) := bdX8_pour_0 (47, .getfield 57, 3) (List.mem_of_getElem? (i := 29) rfl)
theorem dX8_pour_50 : decode cX8_pour 50 = .ok (.bipush 24, 2) := bdX8_pour_0 (50, .bipush 24, 2) (List.mem_of_getElem? (i := 30) rfl)
theorem dX8_pour_52 : decode cX8_pour 52 = .ok (.iload_n 1, 1) := bdX8_pour_0 (52, .iload_n 1, 1) (List.mem_of_getElem? (i := 31) rfl)
theorem dX8_pour_53 : decode cX8_pour 53 = .ok (.imul, 1) := bdX8_pour_0 (53, .imul, 1) (List.mem_of_getElem? (i := 32) rfl)
theorem dX8_pour_54 : decode cX8_pour 54 = .ok (.iload_n 3, 1) := bdX8_pour_0 (54, .iload_n 3, 1) (List.mem_of_getElem? (i := 33) rfl)
theorem dX8_pour_55 : decode cX8_pour 55 = .ok (.iadd, 1) := bdX8_pour_0 (55, .iadd, 1) (List.mem_of_getElem? (i := 34) rfl)
theorem dX8_pour_56 : decode cX8_pour 56 = .ok (.iaload, 1) := bdX8_pour_0 (56, .iaload, 1) (List.mem_of_getElem? (i := 35) rfl)
theorem dX8_pour_57 : decode cX8_pour 57 = .ok (.istore 4, 2) := bdX8_pour_0 (57, .istore 4, 2) (List.mem_of_getElem? (i := 36) rfl)
theorem dX8_pour_59 : decode cX8_pour 59 = .ok (.iload 4, 2) := bdX8_pour_0 (59, .iload 4, 2) (List.mem_of_getElem? (i := 37) rfl)
theorem dX8_pour_61 : decode cX8_pour 61 = .ok (.ldc 78, 2) := bdX8_pour_0 (61, .ldc 78, 2) (List.mem_of_getElem? (i := 38) rfl)
theorem dX8_pour_63 : decode cX8_pour 63 = .ok (.if_icmp .ne 12, 3) := bdX8_pour_0 (63, .if_icmp .ne 12, 3) (List.mem_of_getElem? (i := 39) rfl)
theorem bdX8_pour_66 : ∀ q ∈ ([(66, .aload_n 0, 1), (67, .iload_n 3, 1), (68, .iconst 4, 1), (69, .invokevirtual 87, 3), (72, .goto 11, 3), (75, .iload 4, 2), (77, .iconst 0, 1), (78, .bipush 7, 2), (80, .invokestatic 117, 3), (83, .istore 5, 2), (85, .iload_n 2, 1), (86, .aload_n 0, 1), (87, .iconst 5, 1), (88, .bipush 6, 2), (90, .iload_n 3, 1), (91, .imul, 1), (92, .iadd, 1), (93, .iconst 4, 1), (94, .iadd, 1), (95, .iload 5, 2), (97, .invokevirtual 141, 3), (100, .iload 5, 2), (102, .if_icmp .ne 7, 3), (105, .iconst 0, 1), (106, .goto 4, 3), (109, .iconst 1, 1), (110, .iadd, 1), (111, .istore_n 2, 1), (112, .iinc 3 1, 3), (115, .goto (-89), 3), (118, .iload_n 2, 1), (119, .ireturn, 1)] : List (Nat × Jvm.ClassFile.Instr × Nat)), decode cX8_pour q.1 = .ok q.2 := chk_ok _ 66 _ rfl (by decide +kernel)
theorem dX8_pour_66 : decode cX8_pour 66 = .ok (.aload_n 0, 1) := bdX8_pour_66 (66, .aload_n 0, 1) (List.mem_of_getElem? (i := 0) rfl)
theorem dX8_pour_67 : decode cX8_pour 67 = .ok (.iload_n 3, 1) := bdX8_pour_66 (67, .iload_n 3, 1) (List.mem_of_getElem? (i := 1) rfl)
theorem dX8_pour_68 : decode cX8_pour 68 = .ok (.iconst 4, 1) := bdX8_pour_66 (68, .iconst 4, 1) (List.mem_of_getElem? (i := 2) rfl)
theorem dX8_pour_69 : decode cX8_pour 69 = .ok (.invokevirtual 87, 3) := bdX8_pour_66 (69, .invokevirtual 87, 3) (List.mem_of_getElem? (i := 3) rfl)
theorem dX8_pour_72 : decode cX8_pour 72 = .ok (.goto 11, 3) := bdX8_pour_66 (72, .goto 11, 3) (List.mem_of_getElem? (i := 4) rfl)
theorem dX8_pour_75 : decode cX8_pour 75 = .ok (.iload 4, 2) := bdX8_pour_66 (75, .iload 4, 2) (List.mem_of_getElem? (i := 5) rfl)
theorem dX8_pour_77 : decode cX8_pour 77 = .ok (.iconst 0, 1) := bdX8_pour_66 (77, .iconst 0, 1) (List.mem_of_getElem? (i := 6) rfl)
theorem dX8_pour_78 : decode cX8_pour 78 = .ok (.bipush 7, 2) := bdX8_pour_66 (78, .bipush 7, 2) (List.mem_of_getElem? (i := 7) rfl)
theorem dX8_pour_80 : decode cX8_pour 80 = .ok (.invokestatic 117, 3) := bdX8_pour_66 (80, .invokestatic 117, 3) (List.mem_of_getElem? (i := 8) rfl)
theorem dX8_pour_83 : decode cX8_pour 83 = .ok (.istore 5, 2) := bdX8_pour_66 (83, .istore 5, 2) (List.mem_of_getElem? (i := 9) rfl)
theorem dX8_pour_85 : decode cX8_pour 85 = .ok (.iload_n 2, 1) := bdX8_pour_66 (85, .iload_n 2, 1) (List.mem_of_getElem? (i := 10) rfl)
theorem dX8_pour_86 : decode cX8_pour 86 = .ok (.aload_n 0, 1) := bdX8_pour_66 (86, .aload_n 0, 1) (List.mem_of_getElem? (i := 11) rfl)
theorem dX8_pour_87 : decode cX8_pour 87 = .ok (.iconst 5, 1) := bdX8_pour_66 (87, .iconst 5, 1) (List.mem_of_getElem? (i := 12) rfl)
theorem dX8_pour_88 : decode cX8_pour 88 = .ok (.bipush 6, 2) := bdX8_pour_66 (88, .bipush 6, 2) (List.mem_of_getElem? (i := 13) rfl)
theorem dX8_pour_90 : decode cX8_pour 90 = .ok (.iload_n 3, 1) := bdX8_pour_66 (90, .iload_n 3, 1) (List.mem_of_getElem? (i := 14) rfl)
theorem dX8_pour_91 : decode cX8_pour 91 = .ok (.imul, 1) := bdX8_pour_66 (91, .imul, 1) (List.mem_of_getElem? (i := 15) rfl)
theorem dX8_pour_92 : decode cX8_pour 92 = .ok (.iadd, 1) := bdX8_pour_66 (92, .iadd, 1) (List.mem_of_getElem? (i := 16) rfl)
theorem dX8_pour_93 : decode cX8_pour 93 = .ok (.iconst 4, 1) := bdX8_pour_66 (93, .iconst 4, 1) (List.mem_of_getElem? (i := 17) rfl)
theorem dX8_pour_94 : decode cX8_pour 94 = .ok (.iadd, 1) := bdX8_pour_66 (94, .iadd, 1) (List.mem_of_getElem? (i := 18) rfl)
theorem dX8_pour_95 : decode cX8_pour 95 = .ok (.iload 5, 2) := bdX8_pour_66 (95, .iload 5, 2) (List.mem_of_getElem? (i := 19) rfl)
theorem dX8_pour_97 : decode cX8_pour 97 = .ok (.invokevirtual 141, 3) := bdX8_pour_66 (97, .invokevirtual 141, 3) (List.mem_of_getElem? (i := 20) rfl)
theorem dX8_pour_100 : decode cX8_pour 100 = .ok (.iload 5, 2) := bdX8_pour_66 (100, .iload 5, 2) (List.mem_of_getElem? (i := 21) rfl)
theorem dX8_pour_102 : decode cX8_pour 102 = .ok (.if_icmp .ne 7, 3) := bdX8_pour_66 (102, .if_icmp .ne 7, 3) (List.mem_of_getElem? (i := 22) rfl)
theorem dX8_pour_105 : decode cX8_pour 105 = .ok (.iconst 0, 1) := bdX8_pour_66 (105, .iconst 0, 1) (List.mem_of_getElem? (i := 23) rfl)
theorem dX8_pour_106 : decode cX8_pour 106 = .ok (.goto 4, 3) := bdX8_pour_66 (106, .goto 4, 3) (List.mem_of_getElem? (i := 24) rfl)
theorem dX8_pour_109 : decode cX8_pour 109 = .ok (.iconst 1, 1) := bdX8_pour_66 (109, .iconst 1, 1) (List.mem_of_getElem? (i := 25) rfl)
theorem dX8_pour_110 : decode cX8_pour 110 = .ok (.iadd, 1) := bdX8_pour_66 (110, .iadd, 1) (List.mem_of_getElem? (i := 26) rfl)
theorem dX8_pour_111 : decode cX8_pour 111 = .ok (.istore_n 2, 1) := bdX8_pour_66 (111, .istore_n 2, 1) (List.mem_of_getElem? (i := 27) rfl)
theorem dX8_pour_112 : decode cX8_pour 112 = .ok (.iinc 3 1, 3) := bdX8_pour_66 (112, .iinc 3 1, 3) (List.mem_of_getElem? (i := 28) rfl)
theorem dX8_pour_115 : decode cX8_pour 115 = .ok (.goto (-89), 3) := bdX8_pour_66 (115, .goto (-89), 3) (List.mem_of_getElem? (i := 29) rfl)
theorem dX8_pour_118 : decode cX8_pour 118 = .ok (.iload_n 2, 1) := bdX8_pour_66 (118, .iload_n 2, 1) (List.mem_of_getElem? (i := 30) rfl)
theorem dX8_pour_119 : decode cX8_pour 119 = .ok (.ireturn, 1) := bdX8_pour_66 (119, .ireturn, 1) (List.mem_of_getElem? (i := 31) rfl)
def BX8_pour_118 (ln : Nat → Nat) (post : Int32 → HC → Prop) (S : HC) (x2 : Int32) : Prop := post x2 S
def BX8_pour_110 (ln : Nat → Nat) (post : Int32 → HC → Prop) (K26 : HC → Nat → Int32 → Int32 → Int32 → Prop) (S : HC) (x0 : Nat) (x1 : Int32) (x3 : Int32) (t0 : Int32) (t1 : Int32) : Prop := lt_ (t0 + t1) fun z1 => lt_ (x3 + (1 : Int32)) fun z2 => K26 S x0 x1 z1 z2
def BX8_pour_83 (ln : Nat → Nat) (post : Int32 → HC → Prop) (K26 : HC → Nat → Int32 → Int32 → Int32 → Prop) (S : HC) (x0 : Nat) (x1 : Int32) (x2 : Int32) (x3 : Int32) (t0 : Int32) : Prop := lt_ ((6 : Int32) * x3) fun z3 => lt_ ((5 : Int32) + z3) fun z4 => lt_ (z4 + (4 : Int32)) fun z5 => wpX8_becomes ln S x0 z5 t0 fun z6 S => if z6 = t0 then (BX8_pour_110 ln post K26 S x0 x1 x3 x2 (0 : Int32)) else (BX8_pour_110 ln post K26 S x0 x1 x3 x2 (1 : Int32))
def LX8_pour_26 (ln : Nat → Nat) (post : Int32 → HC → Prop) : Nat → HC → Nat → Int32 → Int32 → Int32 → Prop
  | 0 => fun _ _ _ _ _ => False
  | n26 + 1 => fun S x0 x1 x2 x3 => dn_ (hR S x0 25) fun b7 => al_ (ln b7) x1 (hI S b7) fun z8 => if z8 ≤ x3 then (BX8_pour_118 ln post S x2) else (dn_ (hR S x0 0) fun b9 => al_ (ln b9) (1 : Int32) (hI S b9) fun z10 => if z10 ≤ x3 then (BX8_pour_118 ln post S x2) else (dn_ (hR S x0 26) fun b11 => lt_ ((24 : Int32) * x1) fun z12 => lt_ (z12 + x3) fun z13 => al_ (ln b11) z13 (hI S b11) fun z14 => if z14 = (-1000000005 : Int32) then (wpX8_of ln S x0 x3 (4 : Int32) fun z16 S => BX8_pour_83 ln post (LX8_pour_26 ln post n26) S x0 x1 x2 x3 z16) else (wpX8_within ln S z14 (0 : Int32) (7 : Int32) fun z15 S => BX8_pour_83 ln post (LX8_pour_26 ln post n26) S x0 x1 x2 x3 z15)))
def wpX8_pour (ln : Nat → Nat) (S : HC) (a0 : Nat) (a1 : Int32) (post : Int32 → HC → Prop) : Prop := wpX8_isSheet ln S a1 fun z17 S => if z17 = 0 then (post (-1000000001 : Int32) S) else (dn_ (hR S a0 24) fun b18 => al_ (ln b18) a1 (hI S b18) fun z19 => if 0 ≤ z19 then (∃ n26, LX8_pour_26 ln post n26 S a0 a1 (0 : Int32) (0 : Int32)) else (post (-1000000011 : Int32) S))
abbrev rmX8_pour : Room := { frames := 2, cells := 0, slots := 0, locals := 42 }
set_option maxHeartbeats 4000000 in
set_option maxRecDepth 100000 in
theorem ctX8_pour {l : Launch} {g : GX} {N : Nat} {ln : Nat → Nat} {S : HC} {a0 : Nat} {a1 : Int32} {post : Int32 → HC → Prop} (hr_a0 : a0 < N) (hk_a0 : kd a0 = 8) (h : wpX8_pour ln S a0 a1 post) : Met l yX8_pour (Cond.code yX8_pour prog_10_method_77_code 6 (Option.some Jvm.ClassFile.FieldType.int) :: gtbl) rmX8_pour (va_Pc [.ref (gz g + a0), .int a1] (AtP g N ln S)) (QI g N ln post) 0 0 (gF g) := by
  refine m_of (by decide) (Nat.le_of_ble_eq_true rfl) ?_
  intro p e s m below meth c ls F hr I hl
  have hl : lv_has ls 6 [(0, .ref (gz g + a0)), (1, .int a1)] := hl
  unfold wpX8_pour at h
  have hj_118 : ∀ (S : HC) (H : Heap) (locs : List Loc) (ls : Array Slot) (x2 : Int32), BX8_pour_118 ln post S x2 → Inv g N ln S s H locs → lv_has ls 6 [(2, .int x2)] → W p l e rmX8_pour s m ([.ref (gz g + a0), .int a1] : List Value).toArray below meth c H locs 0 0 (MQ below (QI g N ln post) ([.ref (gz g + a0), .int a1] : List Value).toArray s 0 0 (gF g)) (F0 m 118 ls []) := by
    intro S H locs ls x2 h I hl
    unfold BX8_pour_118 at h
    refine lv_iload_n F.1 F.2.1 dX8_pour_118 rfl (lv_at hl 0 rfl) ?_
    exact r_ireturn F I ⟨hr.1, hr.2.1, trivial⟩ h dX8_pour_119
  have hl_26 : ∀ n26 : Nat, ∀ (S : HC) (H : Heap) (locs : List Loc) (ls : Array Slot) (x0 : Nat) (x1 : Int32) (x2 : Int32) (x3 : Int32), x0 < N → kd x0 = 8 → LX8_pour_26 ln post n26 S x0 x1 x2 x3 → Inv g N ln S s H locs → lv_has ls 6 [(0, .ref (gz g + x0)), (1, .int x1), (2, .int x2), (3, .int x3)] → W p l e rmX8_pour s m ([.ref (gz g + a0), .int a1] : List Value).toArray below meth c H locs 0 0 (MQ below (QI g N ln post) ([.ref (gz g + a0), .int a1] : List Value).toArray s 0 0 (gF g)) (F0 m 26 ls []) := by
    intro n26
    induction n26 with
    | zero =>
      intro S H locs ls x0 x1 x2 x3 hr_x0 hk_x0 h I hl
      exact h.elim
    | succ n26 ih =>
      have hk26 := ih
      have hj_110 : ∀ (S : HC) (H : Heap) (locs : List Loc) (ls : Array Slot) (x0 : Nat) (x1 : Int32) (x3 : Int32) (t0 : Int32) (t1 : Int32), x0 < N → kd x0 = 8 → BX8_pour_110 ln post (LX8_pour_26 ln post n26) S x0 x1 x3 t0 t1 → Inv g N ln S s H locs → lv_has ls 6 [(0, .ref (gz g + x0)), (1, .int x1), (3, .int x3)] → W p l e rmX8_pour s m ([.ref (gz g + a0), .int a1] : List Value).toArray below meth c H locs 0 0 (MQ below (QI g N ln post) ([.ref (gz g + a0), .int a1] : List Value).toArray s 0 0 (gF g)) (F0 m 110 ls [.int t1, .int t0]) := by
        intro S H locs ls x0 x1 x3 t0 t1 hr_x0 hk_x0 h I hl
        unfold BX8_pour_110 at h
        refine r_iadd F dX8_pour_110 h (fun z1 h => ?_)
        refine lv_istore_n (lv' := [(2, .int z1), (0, .ref (gz g + x0)), (1, .int x1), (3, .int x3)]) F.1 F.2.1 dX8_pour_111 rfl hl (by decide) rfl (fun ls hl => ?_)
        obtain ⟨z2, e_z2, h⟩ := lt_x h
        refine lv_iinc (v := z2) (lv' := [(3, .int z2), (2, .int z1), (0, .ref (gz g + x0)), (1, .int x1)]) F.1 F.2.1 dX8_pour_112 hl (k := 3) rfl (by rw [e_z2]; rfl) (by decide) rfl (fun ls hl => ?_)
        refine lv_goto (tgt := 26) F.1 F.2.1 dX8_pour_115 (by decide) ?_
        exact hk26 S _ _ _ x0 x1 z1 z2 hr_x0 hk_x0 h I (lv_sub hl [2, 3, 1, 0] rfl)
      have hj_83 : ∀ (S : HC) (H : Heap) (locs : List Loc) (ls : Array Slot) (x0 : Nat) (x1 : Int32) (x2 : Int32) (x3 : Int32) (t0 : Int32), x0 < N → kd x0 = 8 → BX8_pour_83 ln post (LX8_pour_26 ln post n26) S x0 x1 x2 x3 t0 → Inv g N ln S s H locs → lv_has ls 6 [(0, .ref (gz g + x0)), (1, .int x1), (2, .int x2), (3, .int x3)] → W p l e rmX8_pour s m ([.ref (gz g + a0), .int a1] : List Value).toArray below meth c H locs 0 0 (MQ below (QI g N ln post) ([.ref (gz g + a0), .int a1] : List Value).toArray s 0 0 (gF g)) (F0 m 83 ls [.int t0]) := by
        intro S H locs ls x0 x1 x2 x3 t0 hr_x0 hk_x0 h I hl
        unfold BX8_pour_83 at h
        refine lv_istore (lv' := [(5, .int t0), (0, .ref (gz g + x0)), (1, .int x1), (2, .int x2), (3, .int x3)]) F.1 F.2.1 dX8_pour_83 hl (by decide) rfl (fun ls hl => ?_)
        refine lv_iload_n F.1 F.2.1 dX8_pour_85 rfl (lv_at hl 3 rfl) ?_
        refine lv_aload_n F.1 F.2.1 dX8_pour_86 rfl (lv_at hl 1 rfl) ?_
        refine lv_iconst (v := 5) F.1 F.2.1 dX8_pour_87 (by decide) ?_
        refine lv_bipush (v := 6) F.1 F.2.1 dX8_pour_88 (by decide) ?_
        refine lv_iload_n F.1 F.2.1 dX8_pour_90 rfl (lv_at hl 4 rfl) ?_
        refine r_imul F dX8_pour_91 h (fun z3 h => ?_)
        refine r_iadd F dX8_pour_92 h (fun z4 h => ?_)
        refine lv_iconst (v := 4) F.1 F.2.1 dX8_pour_93 (by decide) ?_
        refine r_iadd F dX8_pour_94 h (fun z5 h => ?_)
        refine lv_iload F.1 F.2.1 dX8_pour_95 (lv_at hl 0 rfl) ?_
        refine g_I I (run_V (As := [.int z5, .int t0]) (rest := [.int x2]) F I hr_x0 hk_x0 (by decide) kX8_141 (ctX8_becomes hr_x0 hk_x0 h) ⟨rfl, rfl⟩ ⟨Nat.le_of_ble_eq_true rfl, Nat.le_of_ble_eq_true rfl⟩ rfl hl.1 rfl (Nat.le_of_ble_eq_true rfl) ⟨Nat.le_of_ble_eq_true rfl, Nat.le_of_ble_eq_true rfl⟩ dX8_pour_97) (fun z6 S H locs I h => ?_)
        refine lv_iload F.1 F.2.1 dX8_pour_100 (lv_at hl 0 rfl) ?_
        refine r_icmp_ne (tgt := 109) F dX8_pour_102 (by decide) h (fun h => ?_) (fun h => ?_)
        · refine lv_iconst (v := 1) F.1 F.2.1 dX8_pour_109 (by decide) ?_
          exact hj_110 S _ _ _ x0 x1 x3 x2 (1 : Int32) hr_x0 hk_x0 h I (lv_sub hl [1, 2, 4] rfl)
        · refine lv_iconst (v := 0) F.1 F.2.1 dX8_pour_105 (by decide) ?_
          refine lv_goto (tgt := 110) F.1 F.2.1 dX8_pour_106 (by decide) ?_
          exact hj_110 S _ _ _ x0 x1 x3 x2 (0 : Int32) hr_x0 hk_x0 h I (lv_sub hl [1, 2, 4] rfl)
      intro S H locs ls x0 x1 x2 x3 hr_x0 hk_x0 h I hl
      rw [LX8_pour_26] at h
      refine lv_iload_n F.1 F.2.1 dX8_pour_26 rfl (lv_at hl 3 rfl) ?_
      refine lv_aload_n F.1 F.2.1 dX8_pour_27 rfl (lv_at hl 0 rfl) ?_
      refine r_getN F I hr_x0 hk_x0 fX8_54 (f := 9) rfl (by decide) dX8_pour_28 h (fun b7 hr_b7 hk_b7 h => ?_)
      refine lv_iload_n F.1 F.2.1 dX8_pour_31 rfl (lv_at hl 1 rfl) ?_
      refine r_ald F I hr_b7 hk_b7 dX8_pour_32 h (fun z8 h => ?_)
      refine r_icmp_ge (tgt := 118) F dX8_pour_33 (by decide) h (fun h => ?_) (fun h => ?_)
      · exact hj_118 S _ _ _ x2  h I (lv_sub hl [2] rfl)
      · refine lv_iload_n F.1 F.2.1 dX8_pour_36 rfl (lv_at hl 3 rfl) ?_
        refine lv_aload_n F.1 F.2.1 dX8_pour_37 rfl (lv_at hl 0 rfl) ?_
        refine r_getN F I hr_x0 hk_x0 fX8_9 (f := 9) rfl (by decide) dX8_pour_38 h (fun b9 hr_b9 hk_b9 h => ?_)
        refine lv_iconst (v := 1) F.1 F.2.1 dX8_pour_41 (by decide) ?_
        refine r_ald F I hr_b9 hk_b9 dX8_pour_42 h (fun z10 h => ?_)
        refine r_icmp_ge (tgt := 118) F dX8_pour_43 (by decide) h (fun h => ?_) (fun h => ?_)
        · exact hj_118 S _ _ _ x2  h I (lv_sub hl [2] rfl)
        · refine lv_aload_n F.1 F.2.1 dX8_pour_46 rfl (lv_at hl 0 rfl) ?_
          refine r_getN F I hr_x0 hk_x0 fX8_57 (f := 9) rfl (by decide) dX8_pour_47 h (fun b11 hr_b11 hk_b11 h => ?_)
          refine lv_bipush (v := 24) F.1 F.2.1 dX8_pour_50 (by decide) ?_
          refine lv_iload_n F.1 F.2.1 dX8_pour_52 rfl (lv_at hl 1 rfl) ?_
          refine r_imul F dX8_pour_53 h (fun z12 h => ?_)
          refine lv_iload_n F.1 F.2.1 dX8_pour_54 rfl (lv_at hl 3 rfl) ?_
          refine r_iadd F dX8_pour_55 h (fun z13 h => ?_)
          refine r_ald F I hr_b11 hk_b11 dX8_pour_56 h (fun z14 h => ?_)
          refine lv_istore (lv' := [(4, .int z14), (0, .ref (gz g + x0)), (1, .int x1), (2, .int x2), (3, .int x3)]) F.1 F.2.1 dX8_pour_57 hl (by decide) rfl (fun ls hl => ?_)
          refine lv_iload F.1 F.2.1 dX8_pour_59 (lv_at hl 0 rfl) ?_
          refine lv_ldc F.1 F.2.1 F.2.2.2.1 (F.2.2.2.2 _ tw_1208) dX8_pour_61 ?_
          refine r_icmp_ne (tgt := 75) F dX8_pour_63 (by decide) h (fun h => ?_) (fun h => ?_)
          · refine lv_iload F.1 F.2.1 dX8_pour_75 (lv_at hl 0 rfl) ?_
            refine lv_iconst (v := 0) F.1 F.2.1 dX8_pour_77 (by decide) ?_
            refine lv_bipush (v := 7) F.1 F.2.1 dX8_pour_78 (by decide) ?_
            refine g_I I (run_S (As := [.int z14, .int (0 : Int32), .int (7 : Int32)]) (rest := []) F I kX8_117 (ctX8_within h) ⟨rfl, rfl⟩ ⟨Nat.le_of_ble_eq_true rfl, Nat.le_of_ble_eq_true rfl⟩ rfl hl.1 rfl (Nat.le_of_ble_eq_true rfl) ⟨Nat.le_of_ble_eq_true rfl, Nat.le_of_ble_eq_true rfl⟩ dX8_pour_80) (fun z15 S H locs I h => ?_)
            exact hj_83 S _ _ _ x0 x1 x2 x3 z15 hr_x0 hk_x0 h I (lv_sub hl [1, 2, 3, 4] rfl)
          · refine lv_aload_n F.1 F.2.1 dX8_pour_66 rfl (lv_at hl 1 rfl) ?_
            refine lv_iload_n F.1 F.2.1 dX8_pour_67 rfl (lv_at hl 4 rfl) ?_
            refine lv_iconst (v := 4) F.1 F.2.1 dX8_pour_68 (by decide) ?_
            refine g_I I (run_V (As := [.int x3, .int (4 : Int32)]) (rest := []) F I hr_x0 hk_x0 (by decide) kX8_87 (ctX8_of hr_x0 hk_x0 h) ⟨rfl, rfl⟩ ⟨Nat.le_of_ble_eq_true rfl, Nat.le_of_ble_eq_true rfl⟩ rfl hl.1 rfl (Nat.le_of_ble_eq_true rfl) ⟨Nat.le_of_ble_eq_true rfl, Nat.le_of_ble_eq_true rfl⟩ dX8_pour_69) (fun z16 S H locs I h => ?_)
            refine lv_goto (tgt := 83) F.1 F.2.1 dX8_pour_72 (by decide) ?_
            exact hj_83 S _ _ _ x0 x1 x2 x3 z16 hr_x0 hk_x0 h I (lv_sub hl [1, 2, 3, 4] rfl)
  refine lv_iload_n F.1 F.2.1 dX8_pour_0 rfl (lv_at hl 1 rfl) ?_
  refine g_I I (run_S (As := [.int a1]) (rest := []) F I kX8_182 (ctX8_isSheet h) ⟨rfl, rfl⟩ ⟨Nat.le_of_ble_eq_true rfl, Nat.le_of_ble_eq_true rfl⟩ rfl hl.1 rfl (Nat.le_of_ble_eq_true rfl) ⟨Nat.le_of_ble_eq_true rfl, Nat.le_of_ble_eq_true rfl⟩ dX8_pour_1) (fun z17 S H locs I h => ?_)
  refine r_if_ne (tgt := 10) F dX8_pour_4 (by decide) h (fun h => ?_) (fun h => ?_)
  · refine lv_aload_n F.1 F.2.1 dX8_pour_10 rfl (lv_at hl 0 rfl) ?_
    refine r_getN F I hr_a0 hk_a0 fX8_51 (f := 9) rfl (by decide) dX8_pour_11 h (fun b18 hr_b18 hk_b18 h => ?_)
    refine lv_iload_n F.1 F.2.1 dX8_pour_14 rfl (lv_at hl 1 rfl) ?_
    refine r_ald F I hr_b18 hk_b18 dX8_pour_15 h (fun z19 h => ?_)
    refine r_if_ge (tgt := 22) F dX8_pour_16 (by decide) h (fun h => ?_) (fun h => ?_)
    · refine lv_iconst (v := 0) F.1 F.2.1 dX8_pour_22 (by decide) ?_
      refine lv_istore_n (lv' := [(2, .int (0 : Int32)), (0, .ref (gz g + a0)), (1, .int a1)]) F.1 F.2.1 dX8_pour_23 rfl hl (by decide) rfl (fun ls hl => ?_)
      refine lv_iconst (v := 0) F.1 F.2.1 dX8_pour_24 (by decide) ?_
      refine lv_istore_n (lv' := [(3, .int (0 : Int32)), (2, .int (0 : Int32)), (0, .ref (gz g + a0)), (1, .int a1)]) F.1 F.2.1 dX8_pour_25 rfl hl (by decide) rfl (fun ls hl => ?_)
      obtain ⟨n26, h⟩ := h
      exact hl_26 n26 S _ _ _ a0 a1 (0 : Int32) (0 : Int32) hr_a0 hk_a0 h I (lv_sub hl [2, 3, 1, 0] rfl)
    · refine lv_ldc F.1 F.2.1 F.2.2.2.1 (F.2.2.2.2 _ tw_1248) dX8_pour_19 ?_
      exact r_ireturn F I ⟨hr.1, hr.2.1, trivial⟩ h dX8_pour_21
  · refine lv_ldc F.1 F.2.1 F.2.2.2.1 (F.2.2.2.2 _ tw_1064) dX8_pour_7 ?_
    exact r_ireturn F I ⟨hr.1, hr.2.1, trivial⟩ h dX8_pour_9
theorem bdX8_reads_0 : ∀ q ∈ ([(0, .iload_n 1, 1), (1, .invokestatic 182, 3), (4, .ifCond .ne 6, 3), (7, .ldc 98, 2), (9, .ireturn, 1), (10, .aload_n 0, 1), (11, .getfield 51, 3), (14, .iload_n 1, 1), (15, .iaload, 1), (16, .ifCond .ge 6, 3), (19, .ldc 185, 2), (21, .ireturn, 1), (22, .iconst 0, 1), (23, .istore_n 2, 1), (24, .iload_n 2, 1), (25, .aload_n 0, 1), (26, .getfield 54, 3), (29, .iload_n 1, 1), (30, .iaload, 1), (31, .if_icmp .ge 47, 3), (34, .aload_n 0, 1), (35, .getfield 57, 3), (38, .bipush 24, 2), (40, .iload_n 1, 1), (41, .imul, 1), (42, .iload_n 2, 1), (43, .iadd, 1), (44, .iaload, 1), (45, .istore_n 3, 1), (46, .iload_n 3, 1), (47, .ldc 78, 2), (49, .if_icmp .eq 23, 3), (52, .aload_n 0, 1), (53, .iload_n 2, 1), (54, .invokevirtual 83, 3), (57, .ifCond .eq 13, 3), (60, .iload_n 3, 1), (61, .aload_n 0, 1), (62, .iload_n 2, 1), (63, .iconst 4, 1)] : List (Nat × Jvm.ClassFile.Instr × Nat)), decode cX8_reads q.1 = .ok q.2 := chk_ok _ 0 _ rfl (by decide +kernel)
theorem dX8_reads_0 : decode cX8_reads 0 = .ok (.iload_n 1, 1) := bdX8_reads_0 (0, .iload_n 1, 1) (List.mem_of_getElem? (i := 0) rfl)
theorem dX8_reads_1 : decode cX8_reads 1 = .ok (.invokestatic 182, 3) := bdX8_reads_0 (1, .invokestatic 182, 3) (List.mem_of_getElem? (i := 1) rfl)
theorem dX8_reads_4 : decode cX8_reads 4 = .ok (.ifCond .ne 6, 3) := bdX8_reads_0 (4, .ifCond .ne 6, 3) (List.mem_of_getElem? (i := 2) rfl)
theorem dX8_reads_7 : decode cX8_reads 7 = .ok (.ldc 98, 2) := bdX8_reads_0 (7, .ldc 98, 2) (List.mem_of_getElem? (i := 3) rfl)
theorem dX8_reads_9 : decode cX8_reads 9 = .ok (.ireturn, 1) := bdX8_reads_0 (9, .ireturn, 1) (List.mem_of_getElem? (i := 4) rfl)
theorem dX8_reads_10 : decode cX8_reads 10 = .ok (.aload_n 0, 1) := bdX8_reads_0 (10, .aload_n 0, 1) (List.mem_of_getElem? (i := 5) rfl)
theorem dX8_reads_11 : decode cX8_reads 11 = .ok (.getfield 51, 3) := bdX8_reads_0 (11, .getfield 51, 3) (List.mem_of_getElem? (i := 6) rfl)
theorem dX8_reads_14 : decode cX8_reads 14 = .ok (.iload_n 1, 1) := bdX8_reads_0 (14, .iload_n 1, 1) (List.mem_of_getElem? (i := 7) rfl)
theorem dX8_reads_15 : decode cX8_reads 15 = .ok (.iaload, 1) := bdX8_reads_0 (15, .iaload, 1) (List.mem_of_getElem? (i := 8) rfl)
theorem dX8_reads_16 : decode cX8_reads 16 = .ok (.ifCond .ge 6, 3) := bdX8_reads_0 (16, .ifCond .ge 6, 3) (List.mem_of_getElem? (i := 9) rfl)
theorem dX8_reads_19 : decode cX8_reads 19 = .ok (.ldc 185, 2) := bdX8_reads_0 (19, .ldc 185, 2) (List.mem_of_getElem? (i := 10) rfl)
theorem dX8_reads_21 : decode cX8_reads 21 = .ok (.ireturn, 1) := bdX8_reads_0 (21, .ireturn, 1) (List.mem_of_getElem? (i := 11) rfl)
theorem dX8_reads_22 : decode cX8_reads 22 = .ok (.iconst 0, 1) := bdX8_reads_0 (22, .iconst 0, 1) (List.mem_of_getElem? (i := 12) rfl)
theorem dX8_reads_23 : decode cX8_reads 23 = .ok (.istore_n 2, 1) := bdX8_reads_0 (23, .istore_n 2, 1) (List.mem_of_getElem? (i := 13) rfl)
theorem dX8_reads_24 : decode cX8_reads 24 = .ok (.iload_n 2, 1) := bdX8_reads_0 (24, .iload_n 2, 1) (List.mem_of_getElem? (i := 14) rfl)
theorem dX8_reads_25 : decode cX8_reads 25 = .ok (.aload_n 0, 1) := bdX8_reads_0 (25, .aload_n 0, 1) (List.mem_of_getElem? (i := 15) rfl)
theorem dX8_reads_26 : decode cX8_reads 26 = .ok (.getfield 54, 3) := bdX8_reads_0 (26, .getfield 54, 3) (List.mem_of_getElem? (i := 16) rfl)
theorem dX8_reads_29 : decode cX8_reads 29 = .ok (.iload_n 1, 1) := bdX8_reads_0 (29, .iload_n 1, 1) (List.mem_of_getElem? (i := 17) rfl)
theorem dX8_reads_30 : decode cX8_reads 30 = .ok (.iaload, 1) := bdX8_reads_0 (30, .iaload, 1) (List.mem_of_getElem? (i := 18) rfl)
theorem dX8_reads_31 : decode cX8_reads 31 = .ok (.if_icmp .ge 47, 3) := bdX8_reads_0 (31, .if_icmp .ge 47, 3) (List.mem_of_getElem? (i := 19) rfl)
theorem dX8_reads_34 : decode cX8_reads 34 = .ok (.aload_n 0, 1) := bdX8_reads_0 (34, .aload_n 0, 1) (List.mem_of_getElem? (i := 20) rfl)
theorem dX8_reads_35 : decode cX8_reads 35 = .ok (.getfield 57, 3) := bdX8_reads_0 (35, .getfield 57, 3) (List.mem_of_getElem? (i := 21) rfl)
theorem dX8_reads_38 : decode cX8_reads 38 = .ok (.bipush 24, 2) := bdX8_reads_0 (38, .bipush 24, 2) (List.mem_of_getElem? (i := 22) rfl)
theorem dX8_reads_40 : decode cX8_reads 40 = .ok (.iload_n 1, 1) := bdX8_reads_0 (40, .iload_n 1, 1) (List.mem_of_getElem? (i := 23) rfl)
theorem dX8_reads_41 : decode cX8_reads 41 = .ok (.imul, 1) := bdX8_reads_0 (41, .imul, 1) (List.mem_of_getElem? (i := 24) rfl)
theorem dX8_reads_42 : decode cX8_reads 42 = .ok (.iload_n 2, 1) := bdX8_reads_0 (42, .iload_n 2, 1) (List.mem_of_getElem? (i := 25) rfl)
theorem dX8_reads_43 : decode cX8_reads 43 = .ok (.iadd, 1) := bdX8_reads_0 (43, .iadd, 1) (List.mem_of_getElem? (i := 26) rfl)
theorem dX8_reads_44 : decode cX8_reads 44 = .ok (.iaload, 1) := bdX8_reads_0 (44, .iaload, 1) (List.mem_of_getElem? (i := 27) rfl)
theorem dX8_reads_45 : decode cX8_reads 45 = .ok (.istore_n 3, 1) := bdX8_reads_0 (45, .istore_n 3, 1) (List.mem_of_getElem? (i := 28) rfl)
theorem dX8_reads_46 : decode cX8_reads 46 = .ok (.iload_n 3, 1) := bdX8_reads_0 (46, .iload_n 3, 1) (List.mem_of_getElem? (i := 29) rfl)
theorem dX8_reads_47 : decode cX8_reads 47 = .ok (.ldc 78, 2) := bdX8_reads_0 (47, .ldc 78, 2) (List.mem_of_getElem? (i := 30) rfl)
theorem dX8_reads_49 : decode cX8_reads 49 = .ok (.if_icmp .eq 23, 3) := bdX8_reads_0 (49, .if_icmp .eq 23, 3) (List.mem_of_getElem? (i := 31) rfl)
theorem dX8_reads_52 : decode cX8_reads 52 = .ok (.aload_n 0, 1) := bdX8_reads_0 (52, .aload_n 0, 1) (List.mem_of_getElem? (i := 32) rfl)
theorem dX8_reads_53 : decode cX8_reads 53 = .ok (.iload_n 2, 1) := bdX8_reads_0 (53, .iload_n 2, 1) (List.mem_of_getElem? (i := 33) rfl)
theorem dX8_reads_54 : decode cX8_reads 54 = .ok (.invokevirtual 83, 3) := bdX8_reads_0 (54, .invokevirtual 83, 3) (List.mem_of_getElem? (i := 34) rfl)
theorem dX8_reads_57 : decode cX8_reads 57 = .ok (.ifCond .eq 13, 3) := bdX8_reads_0 (57, .ifCond .eq 13, 3) (List.mem_of_getElem? (i := 35) rfl)
theorem dX8_reads_60 : decode cX8_reads 60 = .ok (.iload_n 3, 1) := bdX8_reads_0 (60, .iload_n 3, 1) (List.mem_of_getElem? (i := 36) rfl)
theorem dX8_reads_61 : decode cX8_reads 61 = .ok (.aload_n 0, 1) := bdX8_reads_0 (61, .aload_n 0, 1) (List.mem_of_getElem? (i := 37) rfl)
theorem dX8_reads_62 : decode cX8_reads 62 = .ok (.iload_n 2, 1) := bdX8_reads_0 (62, .iload_n 2, 1) (List.mem_of_getElem? (i := 38) rfl)
theorem dX8_reads_63 : decode cX8_reads 63 = .ok (.iconst 4, 1) := bdX8_reads_0 (63, .iconst 4, 1) (List.mem_of_getElem? (i := 39) rfl)
theorem bdX8_reads_64 : ∀ q ∈ ([(64, .invokevirtual 87, 3), (67, .if_icmp .eq 5, 3), (70, .iload_n 2, 1), (71, .ireturn, 1), (72, .iinc 2 1, 3), (75, .goto (-51), 3), (78, .ldc 78, 2), (80, .ireturn, 1)] : List (Nat × Jvm.ClassFile.Instr × Nat)), decode cX8_reads q.1 = .ok q.2 := chk_ok _ 64 _ rfl (by decide +kernel)
theorem dX8_reads_64 : decode cX8_reads 64 = .ok (.invokevirtual 87, 3) := bdX8_reads_64 (64, .invokevirtual 87, 3) (List.mem_of_getElem? (i := 0) rfl)
theorem dX8_reads_67 : decode cX8_reads 67 = .ok (.if_icmp .eq 5, 3) := bdX8_reads_64 (67, .if_icmp .eq 5, 3) (List.mem_of_getElem? (i := 1) rfl)
theorem dX8_reads_70 : decode cX8_reads 70 = .ok (.iload_n 2, 1) := bdX8_reads_64 (70, .iload_n 2, 1) (List.mem_of_getElem? (i := 2) rfl)
theorem dX8_reads_71 : decode cX8_reads 71 = .ok (.ireturn, 1) := bdX8_reads_64 (71, .ireturn, 1) (List.mem_of_getElem? (i := 3) rfl)
theorem dX8_reads_72 : decode cX8_reads 72 = .ok (.iinc 2 1, 3) := bdX8_reads_64 (72, .iinc 2 1, 3) (List.mem_of_getElem? (i := 4) rfl)
theorem dX8_reads_75 : decode cX8_reads 75 = .ok (.goto (-51), 3) := bdX8_reads_64 (75, .goto (-51), 3) (List.mem_of_getElem? (i := 5) rfl)
theorem dX8_reads_78 : decode cX8_reads 78 = .ok (.ldc 78, 2) := bdX8_reads_64 (78, .ldc 78, 2) (List.mem_of_getElem? (i := 6) rfl)
theorem dX8_reads_80 : decode cX8_reads 80 = .ok (.ireturn, 1) := bdX8_reads_64 (80, .ireturn, 1) (List.mem_of_getElem? (i := 7) rfl)
def BX8_reads_72 (ln : Nat → Nat) (post : Int32 → HC → Prop) (K24 : HC → Nat → Int32 → Int32 → Prop) (S : HC) (x0 : Nat) (x1 : Int32) (x2 : Int32) : Prop := lt_ (x2 + (1 : Int32)) fun z1 => K24 S x0 x1 z1
def BX8_reads_70 (ln : Nat → Nat) (post : Int32 → HC → Prop) (K24 : HC → Nat → Int32 → Int32 → Prop) (S : HC) (x2 : Int32) : Prop := post x2 S
def LX8_reads_24 (ln : Nat → Nat) (post : Int32 → HC → Prop) : Nat → HC → Nat → Int32 → Int32 → Prop
  | 0 => fun _ _ _ _ => False
  | n24 + 1 => fun S x0 x1 x2 => dn_ (hR S x0 25) fun b2 => al_ (ln b2) x1 (hI S b2) fun z3 => if z3 ≤ x2 then (post (-1000000005 : Int32) S) else (dn_ (hR S x0 26) fun b4 => lt_ ((24 : Int32) * x1) fun z5 => lt_ (z5 + x2) fun z6 => al_ (ln b4) z6 (hI S b4) fun z7 => if z7 = (-1000000005 : Int32) then (BX8_reads_72 ln post (LX8_reads_24 ln post n24) S x0 x1 x2) else (wpX8_isOne ln S x0 x2 fun z8 S => if z8 = 0 then (BX8_reads_70 ln post (LX8_reads_24 ln post n24) S x2) else (wpX8_of ln S x0 x2 (4 : Int32) fun z9 S => if z7 = z9 then (BX8_reads_72 ln post (LX8_reads_24 ln post n24) S x0 x1 x2) else (BX8_reads_70 ln post (LX8_reads_24 ln post n24) S x2))))
def wpX8_reads (ln : Nat → Nat) (S : HC) (a0 : Nat) (a1 : Int32) (post : Int32 → HC → Prop) : Prop := wpX8_isSheet ln S a1 fun z10 S => if z10 = 0 then (post (-1000000001 : Int32) S) else (dn_ (hR S a0 24) fun b11 => al_ (ln b11) a1 (hI S b11) fun z12 => if 0 ≤ z12 then (∃ n24, LX8_reads_24 ln post n24 S a0 a1 (0 : Int32)) else (post (-1000000011 : Int32) S))
abbrev rmX8_reads : Room := { frames := 2, cells := 0, slots := 0, locals := 43 }
set_option maxHeartbeats 4000000 in
set_option maxRecDepth 100000 in
theorem ctX8_reads {l : Launch} {g : GX} {N : Nat} {ln : Nat → Nat} {S : HC} {a0 : Nat} {a1 : Int32} {post : Int32 → HC → Prop} (hr_a0 : a0 < N) (hk_a0 : kd a0 = 8) (h : wpX8_reads ln S a0 a1 post) : Met l yX8_reads (Cond.code yX8_reads prog_10_method_78_code 4 (Option.some Jvm.ClassFile.FieldType.int) :: gtbl) rmX8_reads (va_Pc [.ref (gz g + a0), .int a1] (AtP g N ln S)) (QI g N ln post) 0 0 (gF g) := by
  refine m_of (by decide) (Nat.le_of_ble_eq_true rfl) ?_
  intro p e s m below meth c ls F hr I hl
  have hl : lv_has ls 4 [(0, .ref (gz g + a0)), (1, .int a1)] := hl
  unfold wpX8_reads at h
  have hl_24 : ∀ n24 : Nat, ∀ (S : HC) (H : Heap) (locs : List Loc) (ls : Array Slot) (x0 : Nat) (x1 : Int32) (x2 : Int32), x0 < N → kd x0 = 8 → LX8_reads_24 ln post n24 S x0 x1 x2 → Inv g N ln S s H locs → lv_has ls 4 [(0, .ref (gz g + x0)), (1, .int x1), (2, .int x2)] → W p l e rmX8_reads s m ([.ref (gz g + a0), .int a1] : List Value).toArray below meth c H locs 0 0 (MQ below (QI g N ln post) ([.ref (gz g + a0), .int a1] : List Value).toArray s 0 0 (gF g)) (F0 m 24 ls []) := by
    intro n24
    induction n24 with
    | zero =>
      intro S H locs ls x0 x1 x2 hr_x0 hk_x0 h I hl
      exact h.elim
    | succ n24 ih =>
      have hk24 := ih
      have hj_72 : ∀ (S : HC) (H : Heap) (locs : List Loc) (ls : Array Slot) (x0 : Nat) (x1 : Int32) (x2 : Int32), x0 < N → kd x0 = 8 → BX8_reads_72 ln post (LX8_reads_24 ln post n24) S x0 x1 x2 → Inv g N ln S s H locs → lv_has ls 4 [(0, .ref (gz g + x0)), (1, .int x1), (2, .int x2)] → W p l e rmX8_reads s m ([.ref (gz g + a0), .int a1] : List Value).toArray below meth c H locs 0 0 (MQ below (QI g N ln post) ([.ref (gz g + a0), .int a1] : List Value).toArray s 0 0 (gF g)) (F0 m 72 ls []) := by
        intro S H locs ls x0 x1 x2 hr_x0 hk_x0 h I hl
        unfold BX8_reads_72 at h
        obtain ⟨z1, e_z1, h⟩ := lt_x h
        refine lv_iinc (v := z1) (lv' := [(2, .int z1), (0, .ref (gz g + x0)), (1, .int x1)]) F.1 F.2.1 dX8_reads_72 hl (k := 2) rfl (by rw [e_z1]; rfl) (by decide) rfl (fun ls hl => ?_)
        refine lv_goto (tgt := 24) F.1 F.2.1 dX8_reads_75 (by decide) ?_
        exact hk24 S _ _ _ x0 x1 z1 hr_x0 hk_x0 h I (lv_sub hl [1, 2, 0] rfl)
      have hj_70 : ∀ (S : HC) (H : Heap) (locs : List Loc) (ls : Array Slot) (x2 : Int32), BX8_reads_70 ln post (LX8_reads_24 ln post n24) S x2 → Inv g N ln S s H locs → lv_has ls 4 [(2, .int x2)] → W p l e rmX8_reads s m ([.ref (gz g + a0), .int a1] : List Value).toArray below meth c H locs 0 0 (MQ below (QI g N ln post) ([.ref (gz g + a0), .int a1] : List Value).toArray s 0 0 (gF g)) (F0 m 70 ls []) := by
        intro S H locs ls x2 h I hl
        unfold BX8_reads_70 at h
        refine lv_iload_n F.1 F.2.1 dX8_reads_70 rfl (lv_at hl 0 rfl) ?_
        exact r_ireturn F I ⟨hr.1, hr.2.1, trivial⟩ h dX8_reads_71
      intro S H locs ls x0 x1 x2 hr_x0 hk_x0 h I hl
      rw [LX8_reads_24] at h
      refine lv_iload_n F.1 F.2.1 dX8_reads_24 rfl (lv_at hl 2 rfl) ?_
      refine lv_aload_n F.1 F.2.1 dX8_reads_25 rfl (lv_at hl 0 rfl) ?_
      refine r_getN F I hr_x0 hk_x0 fX8_54 (f := 9) rfl (by decide) dX8_reads_26 h (fun b2 hr_b2 hk_b2 h => ?_)
      refine lv_iload_n F.1 F.2.1 dX8_reads_29 rfl (lv_at hl 1 rfl) ?_
      refine r_ald F I hr_b2 hk_b2 dX8_reads_30 h (fun z3 h => ?_)
      refine r_icmp_ge (tgt := 78) F dX8_reads_31 (by decide) h (fun h => ?_) (fun h => ?_)
      · refine lv_ldc F.1 F.2.1 F.2.2.2.1 (F.2.2.2.2 _ tw_1208) dX8_reads_78 ?_
        exact r_ireturn F I ⟨hr.1, hr.2.1, trivial⟩ h dX8_reads_80
      · refine lv_aload_n F.1 F.2.1 dX8_reads_34 rfl (lv_at hl 0 rfl) ?_
        refine r_getN F I hr_x0 hk_x0 fX8_57 (f := 9) rfl (by decide) dX8_reads_35 h (fun b4 hr_b4 hk_b4 h => ?_)
        refine lv_bipush (v := 24) F.1 F.2.1 dX8_reads_38 (by decide) ?_
        refine lv_iload_n F.1 F.2.1 dX8_reads_40 rfl (lv_at hl 1 rfl) ?_
        refine r_imul F dX8_reads_41 h (fun z5 h => ?_)
        refine lv_iload_n F.1 F.2.1 dX8_reads_42 rfl (lv_at hl 2 rfl) ?_
        refine r_iadd F dX8_reads_43 h (fun z6 h => ?_)
        refine r_ald F I hr_b4 hk_b4 dX8_reads_44 h (fun z7 h => ?_)
        refine lv_istore_n (lv' := [(3, .int z7), (0, .ref (gz g + x0)), (1, .int x1), (2, .int x2)]) F.1 F.2.1 dX8_reads_45 rfl hl (by decide) rfl (fun ls hl => ?_)
        refine lv_iload_n F.1 F.2.1 dX8_reads_46 rfl (lv_at hl 0 rfl) ?_
        refine lv_ldc F.1 F.2.1 F.2.2.2.1 (F.2.2.2.2 _ tw_1208) dX8_reads_47 ?_
        refine r_icmp_eq (tgt := 72) F dX8_reads_49 (by decide) h (fun h => ?_) (fun h => ?_)
        · exact hj_72 S _ _ _ x0 x1 x2 hr_x0 hk_x0 h I (lv_sub hl [1, 2, 3] rfl)
        · refine lv_aload_n F.1 F.2.1 dX8_reads_52 rfl (lv_at hl 1 rfl) ?_
          refine lv_iload_n F.1 F.2.1 dX8_reads_53 rfl (lv_at hl 3 rfl) ?_
          refine g_I I (run_V (As := [.int x2]) (rest := []) F I hr_x0 hk_x0 (by decide) kX8_83 (ctX8_isOne hr_x0 hk_x0 h) ⟨rfl, rfl⟩ ⟨Nat.le_of_ble_eq_true rfl, Nat.le_of_ble_eq_true rfl⟩ rfl hl.1 rfl (Nat.le_of_ble_eq_true rfl) ⟨Nat.le_of_ble_eq_true rfl, Nat.le_of_ble_eq_true rfl⟩ dX8_reads_54) (fun z8 S H locs I h => ?_)
          refine r_if_eq (tgt := 70) F dX8_reads_57 (by decide) h (fun h => ?_) (fun h => ?_)
          · exact hj_70 S _ _ _ x2  h I (lv_sub hl [3] rfl)
          · refine lv_iload_n F.1 F.2.1 dX8_reads_60 rfl (lv_at hl 0 rfl) ?_
            refine lv_aload_n F.1 F.2.1 dX8_reads_61 rfl (lv_at hl 1 rfl) ?_
            refine lv_iload_n F.1 F.2.1 dX8_reads_62 rfl (lv_at hl 3 rfl) ?_
            refine lv_iconst (v := 4) F.1 F.2.1 dX8_reads_63 (by decide) ?_
            refine g_I I (run_V (As := [.int x2, .int (4 : Int32)]) (rest := [.int z7]) F I hr_x0 hk_x0 (by decide) kX8_87 (ctX8_of hr_x0 hk_x0 h) ⟨rfl, rfl⟩ ⟨Nat.le_of_ble_eq_true rfl, Nat.le_of_ble_eq_true rfl⟩ rfl hl.1 rfl (Nat.le_of_ble_eq_true rfl) ⟨Nat.le_of_ble_eq_true rfl, Nat.le_of_ble_eq_true rfl⟩ dX8_reads_64) (fun z9 S H locs I h => ?_)
            refine r_icmp_eq (tgt := 72) F dX8_reads_67 (by decide) h (fun h => ?_) (fun h => ?_)
            · exact hj_72 S _ _ _ x0 x1 x2 hr_x0 hk_x0 h I (lv_sub hl [1, 2, 3] rfl)
            · exact hj_70 S _ _ _ x2  h I (lv_sub hl [3] rfl)
  refine lv_iload_n F.1 F.2.1 dX8_reads_0 rfl (lv_at hl 1 rfl) ?_
  refine g_I I (run_S (As := [.int a1]) (rest := []) F I kX8_182 (ctX8_isSheet h) ⟨rfl, rfl⟩ ⟨Nat.le_of_ble_eq_true rfl, Nat.le_of_ble_eq_true rfl⟩ rfl hl.1 rfl (Nat.le_of_ble_eq_true rfl) ⟨Nat.le_of_ble_eq_true rfl, Nat.le_of_ble_eq_true rfl⟩ dX8_reads_1) (fun z10 S H locs I h => ?_)
  refine r_if_ne (tgt := 10) F dX8_reads_4 (by decide) h (fun h => ?_) (fun h => ?_)
  · refine lv_aload_n F.1 F.2.1 dX8_reads_10 rfl (lv_at hl 0 rfl) ?_
    refine r_getN F I hr_a0 hk_a0 fX8_51 (f := 9) rfl (by decide) dX8_reads_11 h (fun b11 hr_b11 hk_b11 h => ?_)
    refine lv_iload_n F.1 F.2.1 dX8_reads_14 rfl (lv_at hl 1 rfl) ?_
    refine r_ald F I hr_b11 hk_b11 dX8_reads_15 h (fun z12 h => ?_)
    refine r_if_ge (tgt := 22) F dX8_reads_16 (by decide) h (fun h => ?_) (fun h => ?_)
    · refine lv_iconst (v := 0) F.1 F.2.1 dX8_reads_22 (by decide) ?_
      refine lv_istore_n (lv' := [(2, .int (0 : Int32)), (0, .ref (gz g + a0)), (1, .int a1)]) F.1 F.2.1 dX8_reads_23 rfl hl (by decide) rfl (fun ls hl => ?_)
      obtain ⟨n24, h⟩ := h
      exact hl_24 n24 S _ _ _ a0 a1 (0 : Int32) hr_a0 hk_a0 h I (lv_sub hl [1, 2, 0] rfl)
    · refine lv_ldc F.1 F.2.1 F.2.2.2.1 (F.2.2.2.2 _ tw_1248) dX8_reads_19 ?_
      exact r_ireturn F I ⟨hr.1, hr.2.1, trivial⟩ h dX8_reads_21
  · refine lv_ldc F.1 F.2.1 F.2.2.2.1 (F.2.2.2.2 _ tw_1064) dX8_reads_7 ?_
    exact r_ireturn F I ⟨hr.1, hr.2.1, trivial⟩ h dX8_reads_9
theorem bdX8_copy_0 : ∀ q ∈ ([(0, .iload_n 1, 1), (1, .invokestatic 182, 3), (4, .ifCond .eq 10, 3), (7, .iload_n 3, 1), (8, .invokestatic 182, 3), (11, .ifCond .ne 6, 3), (14, .ldc 98, 2), (16, .ireturn, 1), (17, .aload_n 0, 1), (18, .getfield 51, 3), (21, .iload_n 1, 1), (22, .iaload, 1), (23, .ifCond .lt 12, 3), (26, .aload_n 0, 1), (27, .getfield 51, 3), (30, .iload_n 3, 1), (31, .iaload, 1), (32, .ifCond .ge 6, 3), (35, .ldc 185, 2), (37, .ireturn, 1), (38, .aload_n 0, 1), (39, .getfield 51, 3), (42, .iload_n 1, 1), (43, .iaload, 1), (44, .aload_n 0, 1), (45, .getfield 51, 3), (48, .iload_n 3, 1), (49, .iaload, 1), (50, .if_icmp .eq 6, 3), (53, .ldc 140, 2), (55, .ireturn, 1), (56, .iload_n 2, 1), (57, .ifCond .lt 40, 3), (60, .iload 4, 2), (62, .ifCond .lt 35, 3), (65, .iload 5, 2), (67, .ifCond .lt 30, 3), (70, .iload_n 2, 1), (71, .aload_n 0, 1), (72, .getfield 54, 3)] : List (Nat × Jvm.ClassFile.Instr × Nat)), decode cX8_copy q.1 = .ok q.2 := chk_ok _ 0 _ rfl (by decide +kernel)
theorem dX8_copy_0 : decode cX8_copy 0 = .ok (.iload_n 1, 1) := bdX8_copy_0 (0, .iload_n 1, 1) (List.mem_of_getElem? (i := 0) rfl)
theorem dX8_copy_1 : decode cX8_copy 1 = .ok (.invokestatic 182, 3) := bdX8_copy_0 (1, .invokestatic 182, 3) (List.mem_of_getElem? (i := 1) rfl)
theorem dX8_copy_4 : decode cX8_copy 4 = .ok (.ifCond .eq 10, 3) := bdX8_copy_0 (4, .ifCond .eq 10, 3) (List.mem_of_getElem? (i := 2) rfl)
theorem dX8_copy_7 : decode cX8_copy 7 = .ok (.iload_n 3, 1) := bdX8_copy_0 (7, .iload_n 3, 1) (List.mem_of_getElem? (i := 3) rfl)
theorem dX8_copy_8 : decode cX8_copy 8 = .ok (.invokestatic 182, 3) := bdX8_copy_0 (8, .invokestatic 182, 3) (List.mem_of_getElem? (i := 4) rfl)
theorem dX8_copy_11 : decode cX8_copy 11 = .ok (.ifCond .ne 6, 3) := bdX8_copy_0 (11, .ifCond .ne 6, 3) (List.mem_of_getElem? (i := 5) rfl)
theorem dX8_copy_14 : decode cX8_copy 14 = .ok (.ldc 98, 2) := bdX8_copy_0 (14, .ldc 98, 2) (List.mem_of_getElem? (i := 6) rfl)
theorem dX8_copy_16 : decode cX8_copy 16 = .ok (.ireturn, 1) := bdX8_copy_0 (16, .ireturn, 1) (List.mem_of_getElem? (i := 7) rfl)
theorem dX8_copy_17 : decode cX8_copy 17 = .ok (.aload_n 0, 1) := bdX8_copy_0 (17, .aload_n 0, 1) (List.mem_of_getElem? (i := 8) rfl)
theorem dX8_copy_18 : decode cX8_copy 18 = .ok (.getfield 51, 3) := bdX8_copy_0 (18, .getfield 51, 3) (List.mem_of_getElem? (i := 9) rfl)
theorem dX8_copy_21 : decode cX8_copy 21 = .ok (.iload_n 1, 1) := bdX8_copy_0 (21, .iload_n 1, 1) (List.mem_of_getElem? (i := 10) rfl)
theorem dX8_copy_22 : decode cX8_copy 22 = .ok (.iaload, 1) := bdX8_copy_0 (22, .iaload, 1) (List.mem_of_getElem? (i := 11) rfl)
theorem dX8_copy_23 : decode cX8_copy 23 = .ok (.ifCond .lt 12, 3) := bdX8_copy_0 (23, .ifCond .lt 12, 3) (List.mem_of_getElem? (i := 12) rfl)
theorem dX8_copy_26 : decode cX8_copy 26 = .ok (.aload_n 0, 1) := bdX8_copy_0 (26, .aload_n 0, 1) (List.mem_of_getElem? (i := 13) rfl)
theorem dX8_copy_27 : decode cX8_copy 27 = .ok (.getfield 51, 3) := bdX8_copy_0 (27, .getfield 51, 3) (List.mem_of_getElem? (i := 14) rfl)
theorem dX8_copy_30 : decode cX8_copy 30 = .ok (.iload_n 3, 1) := bdX8_copy_0 (30, .iload_n 3, 1) (List.mem_of_getElem? (i := 15) rfl)
theorem dX8_copy_31 : decode cX8_copy 31 = .ok (.iaload, 1) := bdX8_copy_0 (31, .iaload, 1) (List.mem_of_getElem? (i := 16) rfl)
theorem dX8_copy_32 : decode cX8_copy 32 = .ok (.ifCond .ge 6, 3) := bdX8_copy_0 (32, .ifCond .ge 6, 3) (List.mem_of_getElem? (i := 17) rfl)
theorem dX8_copy_35 : decode cX8_copy 35 = .ok (.ldc 185, 2) := bdX8_copy_0 (35, .ldc 185, 2) (List.mem_of_getElem? (i := 18) rfl)
theorem dX8_copy_37 : decode cX8_copy 37 = .ok (.ireturn, 1) := bdX8_copy_0 (37, .ireturn, 1) (List.mem_of_getElem? (i := 19) rfl)
theorem dX8_copy_38 : decode cX8_copy 38 = .ok (.aload_n 0, 1) := bdX8_copy_0 (38, .aload_n 0, 1) (List.mem_of_getElem? (i := 20) rfl)
theorem dX8_copy_39 : decode cX8_copy 39 = .ok (.getfield 51, 3) := bdX8_copy_0 (39, .getfield 51, 3) (List.mem_of_getElem? (i := 21) rfl)
theorem dX8_copy_42 : decode cX8_copy 42 = .ok (.iload_n 1, 1) := bdX8_copy_0 (42, .iload_n 1, 1) (List.mem_of_getElem? (i := 22) rfl)
theorem dX8_copy_43 : decode cX8_copy 43 = .ok (.iaload, 1) := bdX8_copy_0 (43, .iaload, 1) (List.mem_of_getElem? (i := 23) rfl)
theorem dX8_copy_44 : decode cX8_copy 44 = .ok (.aload_n 0, 1) := bdX8_copy_0 (44, .aload_n 0, 1) (List.mem_of_getElem? (i := 24) rfl)
theorem dX8_copy_45 : decode cX8_copy 45 = .ok (.getfield 51, 3) := bdX8_copy_0 (45, .getfield 51, 3) (List.mem_of_getElem? (i := 25) rfl)
theorem dX8_copy_48 : decode cX8_copy 48 = .ok (.iload_n 3, 1) := bdX8_copy_0 (48, .iload_n 3, 1) (List.mem_of_getElem? (i := 26) rfl)
theorem dX8_copy_49 : decode cX8_copy 49 = .ok (.iaload, 1) := bdX8_copy_0 (49, .iaload, 1) (List.mem_of_getElem? (i := 27) rfl)
theorem dX8_copy_50 : decode cX8_copy 50 = .ok (.if_icmp .eq 6, 3) := bdX8_copy_0 (50, .if_icmp .eq 6, 3) (List.mem_of_getElem? (i := 28) rfl)
theorem dX8_copy_53 : decode cX8_copy 53 = .ok (.ldc 140, 2) := bdX8_copy_0 (53, .ldc 140, 2) (List.mem_of_getElem? (i := 29) rfl)
theorem dX8_copy_55 : decode cX8_copy 55 = .ok (.ireturn, 1) := bdX8_copy_0 (55, .ireturn, 1) (List.mem_of_getElem? (i := 30) rfl)
theorem dX8_copy_56 : decode cX8_copy 56 = .ok (.iload_n 2, 1) := bdX8_copy_0 (56, .iload_n 2, 1) (List.mem_of_getElem? (i := 31) rfl)
theorem dX8_copy_57 : decode cX8_copy 57 = .ok (.ifCond .lt 40, 3) := bdX8_copy_0 (57, .ifCond .lt 40, 3) (List.mem_of_getElem? (i := 32) rfl)
theorem dX8_copy_60 : decode cX8_copy 60 = .ok (.iload 4, 2) := bdX8_copy_0 (60, .iload 4, 2) (List.mem_of_getElem? (i := 33) rfl)
theorem dX8_copy_62 : decode cX8_copy 62 = .ok (.ifCond .lt 35, 3) := bdX8_copy_0 (62, .ifCond .lt 35, 3) (List.mem_of_getElem? (i := 34) rfl)
theorem dX8_copy_65 : decode cX8_copy 65 = .ok (.iload 5, 2) := bdX8_copy_0 (65, .iload 5, 2) (List.mem_of_getElem? (i := 35) rfl)
theorem dX8_copy_67 : decode cX8_copy 67 = .ok (.ifCond .lt 30, 3) := bdX8_copy_0 (67, .ifCond .lt 30, 3) (List.mem_of_getElem? (i := 36) rfl)
theorem dX8_copy_70 : decode cX8_copy 70 = .ok (.iload_n 2, 1) := bdX8_copy_0 (70, .iload_n 2, 1) (List.mem_of_getElem? (i := 37) rfl)
theorem dX8_copy_71 : decode cX8_copy 71 = .ok (.aload_n 0, 1) := bdX8_copy_0 (71, .aload_n 0, 1) (List.mem_of_getElem? (i := 38) rfl)
theorem dX8_copy_72 : decode cX8_copy 72 = .ok (.getfield 54, 3) := bdX8_copy_0 (72, .getfield 54, 3) (List.mem_of_getElem? (i := 39) rfl)
theorem bdX8_copy_75 : ∀ q ∈ ([(75, .iload_n 1, 1), (76, .iaload, 1), (77, .iload 5, 2), (79, .isub, 1), (80, .if_icmp .gt 17, 3), (83, .iload 4, 2), (85, .aload_n 0, 1), (86, .getfield 54, 3), (89, .iload_n 3, 1), (90, .iaload, 1), (91, .iload 5, 2), (93, .isub, 1), (94, .if_icmp .le 7, 3), (97, .ldc_w 259, 3), (100, .ireturn, 1), (101, .iconst 0, 1), (102, .istore 6, 2), (104, .iload 6, 2), (106, .iload 5, 2), (108, .if_icmp .ge 30, 3), (111, .aload_n 0, 1), (112, .getfield 72, 3), (115, .iload 6, 2), (117, .aload_n 0, 1), (118, .getfield 57, 3), (121, .bipush 24, 2), (123, .iload_n 1, 1), (124, .imul, 1), (125, .iload_n 2, 1), (126, .iadd, 1), (127, .iload 6, 2), (129, .iadd, 1), (130, .iaload, 1), (131, .iastore, 1), (132, .iinc 6 1, 3), (135, .goto (-31), 3), (138, .iconst 0, 1), (139, .istore 6, 2), (141, .iload 6, 2), (143, .iload 5, 2)] : List (Nat × Jvm.ClassFile.Instr × Nat)), decode cX8_copy q.1 = .ok q.2 := chk_ok _ 75 _ rfl (by decide +kernel)
theorem dX8_copy_75 : decode cX8_copy 75 = .ok (.iload_n 1, 1) := bdX8_copy_75 (75, .iload_n 1, 1) (List.mem_of_getElem? (i := 0) rfl)
theorem dX8_copy_76 : decode cX8_copy 76 = .ok (.iaload, 1) := bdX8_copy_75 (76, .iaload, 1) (List.mem_of_getElem? (i := 1) rfl)
theorem dX8_copy_77 : decode cX8_copy 77 = .ok (.iload 5, 2) := bdX8_copy_75 (77, .iload 5, 2) (List.mem_of_getElem? (i := 2) rfl)
theorem dX8_copy_79 : decode cX8_copy 79 = .ok (.isub, 1) := bdX8_copy_75 (79, .isub, 1) (List.mem_of_getElem? (i := 3) rfl)
theorem dX8_copy_80 : decode cX8_copy 80 = .ok (.if_icmp .gt 17, 3) := bdX8_copy_75 (80, .if_icmp .gt 17, 3) (List.mem_of_getElem? (i := 4) rfl)
theorem dX8_copy_83 : decode cX8_copy 83 = .ok (.iload 4, 2) := bdX8_copy_75 (83, .iload 4, 2) (List.mem_of_getElem? (i := 5) rfl)
theorem dX8_copy_85 : decode cX8_copy 85 = .ok (.aload_n 0, 1) := bdX8_copy_75 (85, .aload_n 0, 1) (List.mem_of_getElem? (i := 6) rfl)
theorem dX8_copy_86 : decode cX8_copy 86 = .ok (.getfield 54, 3) := bdX8_copy_75 (86, .getfield 54, 3) (List.mem_of_getElem? (i := 7) rfl)
theorem dX8_copy_89 : decode cX8_copy 89 = .ok (.iload_n 3, 1) := bdX8_copy_75 (89, .iload_n 3, 1) (List.mem_of_getElem? (i := 8) rfl)
theorem dX8_copy_90 : decode cX8_copy 90 = .ok (.iaload, 1) := bdX8_copy_75 (90, .iaload, 1) (List.mem_of_getElem? (i := 9) rfl)
theorem dX8_copy_91 : decode cX8_copy 91 = .ok (.iload 5, 2) := bdX8_copy_75 (91, .iload 5, 2) (List.mem_of_getElem? (i := 10) rfl)
theorem dX8_copy_93 : decode cX8_copy 93 = .ok (.isub, 1) := bdX8_copy_75 (93, .isub, 1) (List.mem_of_getElem? (i := 11) rfl)
theorem dX8_copy_94 : decode cX8_copy 94 = .ok (.if_icmp .le 7, 3) := bdX8_copy_75 (94, .if_icmp .le 7, 3) (List.mem_of_getElem? (i := 12) rfl)
theorem dX8_copy_97 : decode cX8_copy 97 = .ok (.ldc_w 259, 3) := bdX8_copy_75 (97, .ldc_w 259, 3) (List.mem_of_getElem? (i := 13) rfl)
theorem dX8_copy_100 : decode cX8_copy 100 = .ok (.ireturn, 1) := bdX8_copy_75 (100, .ireturn, 1) (List.mem_of_getElem? (i := 14) rfl)
theorem dX8_copy_101 : decode cX8_copy 101 = .ok (.iconst 0, 1) := bdX8_copy_75 (101, .iconst 0, 1) (List.mem_of_getElem? (i := 15) rfl)
theorem dX8_copy_102 : decode cX8_copy 102 = .ok (.istore 6, 2) := bdX8_copy_75 (102, .istore 6, 2) (List.mem_of_getElem? (i := 16) rfl)
theorem dX8_copy_104 : decode cX8_copy 104 = .ok (.iload 6, 2) := bdX8_copy_75 (104, .iload 6, 2) (List.mem_of_getElem? (i := 17) rfl)
theorem dX8_copy_106 : decode cX8_copy 106 = .ok (.iload 5, 2) := bdX8_copy_75 (106, .iload 5, 2) (List.mem_of_getElem? (i := 18) rfl)
theorem dX8_copy_108 : decode cX8_copy 108 = .ok (.if_icmp .ge 30, 3) := bdX8_copy_75 (108, .if_icmp .ge 30, 3) (List.mem_of_getElem? (i := 19) rfl)
theorem dX8_copy_111 : decode cX8_copy 111 = .ok (.aload_n 0, 1) := bdX8_copy_75 (111, .aload_n 0, 1) (List.mem_of_getElem? (i := 20) rfl)
theorem dX8_copy_112 : decode cX8_copy 112 = .ok (.getfield 72, 3) := bdX8_copy_75 (112, .getfield 72, 3) (List.mem_of_getElem? (i := 21) rfl)
theorem dX8_copy_115 : decode cX8_copy 115 = .ok (.iload 6, 2) := bdX8_copy_75 (115, .iload 6, 2) (List.mem_of_getElem? (i := 22) rfl)
theorem dX8_copy_117 : decode cX8_copy 117 = .ok (.aload_n 0, 1) := bdX8_copy_75 (117, .aload_n 0, 1) (List.mem_of_getElem? (i := 23) rfl)
theorem dX8_copy_118 : decode cX8_copy 118 = .ok (.getfield 57, 3) := bdX8_copy_75 (118, .getfield 57, 3) (List.mem_of_getElem? (i := 24) rfl)
theorem dX8_copy_121 : decode cX8_copy 121 = .ok (.bipush 24, 2) := bdX8_copy_75 (121, .bipush 24, 2) (List.mem_of_getElem? (i := 25) rfl)
theorem dX8_copy_123 : decode cX8_copy 123 = .ok (.iload_n 1, 1) := bdX8_copy_75 (123, .iload_n 1, 1) (List.mem_of_getElem? (i := 26) rfl)
theorem dX8_copy_124 : decode cX8_copy 124 = .ok (.imul, 1) := bdX8_copy_75 (124, .imul, 1) (List.mem_of_getElem? (i := 27) rfl)
theorem dX8_copy_125 : decode cX8_copy 125 = .ok (.iload_n 2, 1) := bdX8_copy_75 (125, .iload_n 2, 1) (List.mem_of_getElem? (i := 28) rfl)
theorem dX8_copy_126 : decode cX8_copy 126 = .ok (.iadd, 1) := bdX8_copy_75 (126, .iadd, 1) (List.mem_of_getElem? (i := 29) rfl)
theorem dX8_copy_127 : decode cX8_copy 127 = .ok (.iload 6, 2) := bdX8_copy_75 (127, .iload 6, 2) (List.mem_of_getElem? (i := 30) rfl)
theorem dX8_copy_129 : decode cX8_copy 129 = .ok (.iadd, 1) := bdX8_copy_75 (129, .iadd, 1) (List.mem_of_getElem? (i := 31) rfl)
theorem dX8_copy_130 : decode cX8_copy 130 = .ok (.iaload, 1) := bdX8_copy_75 (130, .iaload, 1) (List.mem_of_getElem? (i := 32) rfl)
theorem dX8_copy_131 : decode cX8_copy 131 = .ok (.iastore, 1) := bdX8_copy_75 (131, .iastore, 1) (List.mem_of_getElem? (i := 33) rfl)
theorem dX8_copy_132 : decode cX8_copy 132 = .ok (.iinc 6 1, 3) := bdX8_copy_75 (132, .iinc 6 1, 3) (List.mem_of_getElem? (i := 34) rfl)
theorem dX8_copy_135 : decode cX8_copy 135 = .ok (.goto (-31), 3) := bdX8_copy_75 (135, .goto (-31), 3) (List.mem_of_getElem? (i := 35) rfl)
theorem dX8_copy_138 : decode cX8_copy 138 = .ok (.iconst 0, 1) := bdX8_copy_75 (138, .iconst 0, 1) (List.mem_of_getElem? (i := 36) rfl)
theorem dX8_copy_139 : decode cX8_copy 139 = .ok (.istore 6, 2) := bdX8_copy_75 (139, .istore 6, 2) (List.mem_of_getElem? (i := 37) rfl)
theorem dX8_copy_141 : decode cX8_copy 141 = .ok (.iload 6, 2) := bdX8_copy_75 (141, .iload 6, 2) (List.mem_of_getElem? (i := 38) rfl)
theorem dX8_copy_143 : decode cX8_copy 143 = .ok (.iload 5, 2) := bdX8_copy_75 (143, .iload 5, 2) (List.mem_of_getElem? (i := 39) rfl)
theorem bdX8_copy_145 : ∀ q ∈ ([(145, .if_icmp .ge 31, 3), (148, .aload_n 0, 1), (149, .getfield 57, 3), (152, .bipush 24, 2), (154, .iload_n 3, 1), (155, .imul, 1), (156, .iload 4, 2), (158, .iadd, 1), (159, .iload 6, 2), (161, .iadd, 1), (162, .aload_n 0, 1), (163, .getfield 72, 3), (166, .iload 6, 2), (168, .iaload, 1), (169, .iastore, 1), (170, .iinc 6 1, 3), (173, .goto (-32), 3), (176, .iload 5, 2), (178, .ireturn, 1)] : List (Nat × Jvm.ClassFile.Instr × Nat)), decode cX8_copy q.1 = .ok q.2 := chk_ok _ 145 _ rfl (by decide +kernel)
theorem dX8_copy_145 : decode cX8_copy 145 = .ok (.if_icmp .ge 31, 3) := bdX8_copy_145 (145, .if_icmp .ge 31, 3) (List.mem_of_getElem? (i := 0) rfl)
theorem dX8_copy_148 : decode cX8_copy 148 = .ok (.aload_n 0, 1) := bdX8_copy_145 (148, .aload_n 0, 1) (List.mem_of_getElem? (i := 1) rfl)
theorem dX8_copy_149 : decode cX8_copy 149 = .ok (.getfield 57, 3) := bdX8_copy_145 (149, .getfield 57, 3) (List.mem_of_getElem? (i := 2) rfl)
theorem dX8_copy_152 : decode cX8_copy 152 = .ok (.bipush 24, 2) := bdX8_copy_145 (152, .bipush 24, 2) (List.mem_of_getElem? (i := 3) rfl)
theorem dX8_copy_154 : decode cX8_copy 154 = .ok (.iload_n 3, 1) := bdX8_copy_145 (154, .iload_n 3, 1) (List.mem_of_getElem? (i := 4) rfl)
theorem dX8_copy_155 : decode cX8_copy 155 = .ok (.imul, 1) := bdX8_copy_145 (155, .imul, 1) (List.mem_of_getElem? (i := 5) rfl)
theorem dX8_copy_156 : decode cX8_copy 156 = .ok (.iload 4, 2) := bdX8_copy_145 (156, .iload 4, 2) (List.mem_of_getElem? (i := 6) rfl)
theorem dX8_copy_158 : decode cX8_copy 158 = .ok (.iadd, 1) := bdX8_copy_145 (158, .iadd, 1) (List.mem_of_getElem? (i := 7) rfl)
theorem dX8_copy_159 : decode cX8_copy 159 = .ok (.iload 6, 2) := bdX8_copy_145 (159, .iload 6, 2) (List.mem_of_getElem? (i := 8) rfl)
theorem dX8_copy_161 : decode cX8_copy 161 = .ok (.iadd, 1) := bdX8_copy_145 (161, .iadd, 1) (List.mem_of_getElem? (i := 9) rfl)
theorem dX8_copy_162 : decode cX8_copy 162 = .ok (.aload_n 0, 1) := bdX8_copy_145 (162, .aload_n 0, 1) (List.mem_of_getElem? (i := 10) rfl)
theorem dX8_copy_163 : decode cX8_copy 163 = .ok (.getfield 72, 3) := bdX8_copy_145 (163, .getfield 72, 3) (List.mem_of_getElem? (i := 11) rfl)
theorem dX8_copy_166 : decode cX8_copy 166 = .ok (.iload 6, 2) := bdX8_copy_145 (166, .iload 6, 2) (List.mem_of_getElem? (i := 12) rfl)
theorem dX8_copy_168 : decode cX8_copy 168 = .ok (.iaload, 1) := bdX8_copy_145 (168, .iaload, 1) (List.mem_of_getElem? (i := 13) rfl)
theorem dX8_copy_169 : decode cX8_copy 169 = .ok (.iastore, 1) := bdX8_copy_145 (169, .iastore, 1) (List.mem_of_getElem? (i := 14) rfl)
theorem dX8_copy_170 : decode cX8_copy 170 = .ok (.iinc 6 1, 3) := bdX8_copy_145 (170, .iinc 6 1, 3) (List.mem_of_getElem? (i := 15) rfl)
theorem dX8_copy_173 : decode cX8_copy 173 = .ok (.goto (-32), 3) := bdX8_copy_145 (173, .goto (-32), 3) (List.mem_of_getElem? (i := 16) rfl)
theorem dX8_copy_176 : decode cX8_copy 176 = .ok (.iload 5, 2) := bdX8_copy_145 (176, .iload 5, 2) (List.mem_of_getElem? (i := 17) rfl)
theorem dX8_copy_178 : decode cX8_copy 178 = .ok (.ireturn, 1) := bdX8_copy_145 (178, .ireturn, 1) (List.mem_of_getElem? (i := 18) rfl)
theorem fX8_72 : fldOK RX8 72 8 31 (.array .int) true := ⟨_, _, _, tyX8, ⟨rfl, iX8, by decide, rfl, by decide⟩, tw_968, ⟨tyX8_ok, nmX8⟩, by decide +kernel, rfl, rfl⟩
def LX8_copy_141 (ln : Nat → Nat) (post : Int32 → HC → Prop) : Nat → HC → Nat → Int32 → Int32 → Int32 → Int32 → Prop
  | 0 => fun _ _ _ _ _ _ => False
  | n141 + 1 => fun S x0 x3 x4 x5 x6 => if x5 ≤ x6 then (post x5 S) else (dn_ (hR S x0 26) fun b1 => lt_ ((24 : Int32) * x3) fun z2 => lt_ (z2 + x4) fun z3 => lt_ (z3 + x6) fun z4 => dn_ (hR S x0 31) fun b5 => al_ (ln b5) x6 (hI S b5) fun z6 => as_ (ln b1) z4 (fun j => sI S b1 j z6) fun S => lt_ (x6 + (1 : Int32)) fun z7 => (LX8_copy_141 ln post n141) S x0 x3 x4 x5 z7)
def LX8_copy_104 (ln : Nat → Nat) (post : Int32 → HC → Prop) : Nat → HC → Nat → Int32 → Int32 → Int32 → Int32 → Int32 → Int32 → Prop
  | 0 => fun _ _ _ _ _ _ _ _ => False
  | n104 + 1 => fun S x0 x1 x2 x3 x4 x5 x6 => if x5 ≤ x6 then (∃ n141, LX8_copy_141 ln post n141 S x0 x3 x4 x5 (0 : Int32)) else (dn_ (hR S x0 31) fun b8 => dn_ (hR S x0 26) fun b9 => lt_ ((24 : Int32) * x1) fun z10 => lt_ (z10 + x2) fun z11 => lt_ (z11 + x6) fun z12 => al_ (ln b9) z12 (hI S b9) fun z13 => as_ (ln b8) x6 (fun j => sI S b8 j z13) fun S => lt_ (x6 + (1 : Int32)) fun z14 => (LX8_copy_104 ln post n104) S x0 x1 x2 x3 x4 x5 z14)
def BX8_copy_97 (ln : Nat → Nat) (post : Int32 → HC → Prop) (S : HC)  : Prop := post (-1000000013 : Int32) S
def BX8_copy_35 (ln : Nat → Nat) (post : Int32 → HC → Prop) (S : HC)  : Prop := post (-1000000011 : Int32) S
def BX8_copy_14 (ln : Nat → Nat) (post : Int32 → HC → Prop) (S : HC)  : Prop := post (-1000000001 : Int32) S
def wpX8_copy (ln : Nat → Nat) (S : HC) (a0 : Nat) (a1 : Int32) (a2 : Int32) (a3 : Int32) (a4 : Int32) (a5 : Int32) (post : Int32 → HC → Prop) : Prop := wpX8_isSheet ln S a1 fun z15 S => if z15 = 0 then (BX8_copy_14 ln post S) else (wpX8_isSheet ln S a3 fun z16 S => if z16 = 0 then (BX8_copy_14 ln post S) else (dn_ (hR S a0 24) fun b17 => al_ (ln b17) a1 (hI S b17) fun z18 => if z18 < 0 then (BX8_copy_35 ln post S) else (dn_ (hR S a0 24) fun b19 => al_ (ln b19) a3 (hI S b19) fun z20 => if 0 ≤ z20 then (dn_ (hR S a0 24) fun b21 => al_ (ln b21) a1 (hI S b21) fun z22 => dn_ (hR S a0 24) fun b23 => al_ (ln b23) a3 (hI S b23) fun z24 => if z22 = z24 then (if a2 < 0 then (BX8_copy_97 ln post S) else (if a4 < 0 then (BX8_copy_97 ln post S) else (if a5 < 0 then (BX8_copy_97 ln post S) else (dn_ (hR S a0 25) fun b25 => al_ (ln b25) a1 (hI S b25) fun z26 => lt_ (z26 - a5) fun z27 => if z27 < a2 then (BX8_copy_97 ln post S) else (dn_ (hR S a0 25) fun b28 => al_ (ln b28) a3 (hI S b28) fun z29 => lt_ (z29 - a5) fun z30 => if a4 ≤ z30 then (∃ n104, LX8_copy_104 ln post n104 S a0 a1 a2 a3 a4 a5 (0 : Int32)) else (BX8_copy_97 ln post S)))))) else (post (-1000000012 : Int32) S)) else (BX8_copy_35 ln post S))))
abbrev rmX8_copy : Room := { frames := 2, cells := 0, slots := 0, locals := 42 }
set_option maxHeartbeats 4000000 in
set_option maxRecDepth 100000 in
theorem ctX8_copy {l : Launch} {g : GX} {N : Nat} {ln : Nat → Nat} {S : HC} {a0 : Nat} {a1 : Int32} {a2 : Int32} {a3 : Int32} {a4 : Int32} {a5 : Int32} {post : Int32 → HC → Prop} (hr_a0 : a0 < N) (hk_a0 : kd a0 = 8) (h : wpX8_copy ln S a0 a1 a2 a3 a4 a5 post) : Met l yX8_copy (Cond.code yX8_copy prog_10_method_79_code 7 (Option.some Jvm.ClassFile.FieldType.int) :: gtbl) rmX8_copy (va_Pc [.ref (gz g + a0), .int a1, .int a2, .int a3, .int a4, .int a5] (AtP g N ln S)) (QI g N ln post) 0 0 (gF g) := by
  refine m_of (by decide) (Nat.le_of_ble_eq_true rfl) ?_
  intro p e s m below meth c ls F hr I hl
  have hl : lv_has ls 7 [(0, .ref (gz g + a0)), (1, .int a1), (2, .int a2), (3, .int a3), (4, .int a4), (5, .int a5)] := hl
  unfold wpX8_copy at h
  have hl_141 : ∀ n141 : Nat, ∀ (S : HC) (H : Heap) (locs : List Loc) (ls : Array Slot) (x0 : Nat) (x3 : Int32) (x4 : Int32) (x5 : Int32) (x6 : Int32), x0 < N → kd x0 = 8 → LX8_copy_141 ln post n141 S x0 x3 x4 x5 x6 → Inv g N ln S s H locs → lv_has ls 7 [(0, .ref (gz g + x0)), (3, .int x3), (4, .int x4), (5, .int x5), (6, .int x6)] → W p l e rmX8_copy s m ([.ref (gz g + a0), .int a1, .int a2, .int a3, .int a4, .int a5] : List Value).toArray below meth c H locs 0 0 (MQ below (QI g N ln post) ([.ref (gz g + a0), .int a1, .int a2, .int a3, .int a4, .int a5] : List Value).toArray s 0 0 (gF g)) (F0 m 141 ls []) := by
    intro n141
    induction n141 with
    | zero =>
      intro S H locs ls x0 x3 x4 x5 x6 hr_x0 hk_x0 h I hl
      exact h.elim
    | succ n141 ih =>
      have hk141 := ih
      intro S H locs ls x0 x3 x4 x5 x6 hr_x0 hk_x0 h I hl
      rw [LX8_copy_141] at h
      refine lv_iload F.1 F.2.1 dX8_copy_141 (lv_at hl 4 rfl) ?_
      refine lv_iload F.1 F.2.1 dX8_copy_143 (lv_at hl 3 rfl) ?_
      refine r_icmp_ge (tgt := 176) F dX8_copy_145 (by decide) h (fun h => ?_) (fun h => ?_)
      · refine lv_iload F.1 F.2.1 dX8_copy_176 (lv_at hl 3 rfl) ?_
        exact r_ireturn F I ⟨hr.1, hr.2.1, trivial⟩ h dX8_copy_178
      · refine lv_aload_n F.1 F.2.1 dX8_copy_148 rfl (lv_at hl 0 rfl) ?_
        refine r_getN F I hr_x0 hk_x0 fX8_57 (f := 9) rfl (by decide) dX8_copy_149 h (fun b1 hr_b1 hk_b1 h => ?_)
        refine lv_bipush (v := 24) F.1 F.2.1 dX8_copy_152 (by decide) ?_
        refine lv_iload_n F.1 F.2.1 dX8_copy_154 rfl (lv_at hl 1 rfl) ?_
        refine r_imul F dX8_copy_155 h (fun z2 h => ?_)
        refine lv_iload F.1 F.2.1 dX8_copy_156 (lv_at hl 2 rfl) ?_
        refine r_iadd F dX8_copy_158 h (fun z3 h => ?_)
        refine lv_iload F.1 F.2.1 dX8_copy_159 (lv_at hl 4 rfl) ?_
        refine r_iadd F dX8_copy_161 h (fun z4 h => ?_)
        refine lv_aload_n F.1 F.2.1 dX8_copy_162 rfl (lv_at hl 0 rfl) ?_
        refine r_getN F I hr_x0 hk_x0 fX8_72 (f := 9) rfl (by decide) dX8_copy_163 h (fun b5 hr_b5 hk_b5 h => ?_)
        refine lv_iload F.1 F.2.1 dX8_copy_166 (lv_at hl 4 rfl) ?_
        refine r_ald F I hr_b5 hk_b5 dX8_copy_168 h (fun z6 h => ?_)
        refine r_ast F I hr_b1 hk_b1 dX8_copy_169 h (fun S H locs I h => ?_)
        obtain ⟨z7, e_z7, h⟩ := lt_x h
        refine lv_iinc (v := z7) (lv' := [(6, .int z7), (0, .ref (gz g + x0)), (3, .int x3), (4, .int x4), (5, .int x5)]) F.1 F.2.1 dX8_copy_170 hl (k := 4) rfl (by rw [e_z7]; rfl) (by decide) rfl (fun ls hl => ?_)
        refine lv_goto (tgt := 141) F.1 F.2.1 dX8_copy_173 (by decide) ?_
        exact hk141 S _ _ _ x0 x3 x4 x5 z7 hr_x0 hk_x0 h I (lv_sub hl [1, 2, 3, 4, 0] rfl)
  have hl_104 : ∀ n104 : Nat, ∀ (S : HC) (H : Heap) (locs : List Loc) (ls : Array Slot) (x0 : Nat) (x1 : Int32) (x2 : Int32) (x3 : Int32) (x4 : Int32) (x5 : Int32) (x6 : Int32), x0 < N → kd x0 = 8 → LX8_copy_104 ln post n104 S x0 x1 x2 x3 x4 x5 x6 → Inv g N ln S s H locs → lv_has ls 7 [(0, .ref (gz g + x0)), (1, .int x1), (2, .int x2), (3, .int x3), (4, .int x4), (5, .int x5), (6, .int x6)] → W p l e rmX8_copy s m ([.ref (gz g + a0), .int a1, .int a2, .int a3, .int a4, .int a5] : List Value).toArray below meth c H locs 0 0 (MQ below (QI g N ln post) ([.ref (gz g + a0), .int a1, .int a2, .int a3, .int a4, .int a5] : List Value).toArray s 0 0 (gF g)) (F0 m 104 ls []) := by
    intro n104
    induction n104 with
    | zero =>
      intro S H locs ls x0 x1 x2 x3 x4 x5 x6 hr_x0 hk_x0 h I hl
      exact h.elim
    | succ n104 ih =>
      have hk104 := ih
      intro S H locs ls x0 x1 x2 x3 x4 x5 x6 hr_x0 hk_x0 h I hl
      rw [LX8_copy_104] at h
      refine lv_iload F.1 F.2.1 dX8_copy_104 (lv_at hl 6 rfl) ?_
      refine lv_iload F.1 F.2.1 dX8_copy_106 (lv_at hl 5 rfl) ?_
      refine r_icmp_ge (tgt := 138) F dX8_copy_108 (by decide) h (fun h => ?_) (fun h => ?_)
      · refine lv_iconst (v := 0) F.1 F.2.1 dX8_copy_138 (by decide) ?_
        refine lv_istore (lv' := [(6, .int (0 : Int32)), (0, .ref (gz g + x0)), (1, .int x1), (2, .int x2), (3, .int x3), (4, .int x4), (5, .int x5)]) F.1 F.2.1 dX8_copy_139 hl (by decide) rfl (fun ls hl => ?_)
        obtain ⟨n141, h⟩ := h
        exact hl_141 n141 S _ _ _ x0 x3 x4 x5 (0 : Int32) hr_x0 hk_x0 h I (lv_sub hl [1, 4, 5, 6, 0] rfl)
      · refine lv_aload_n F.1 F.2.1 dX8_copy_111 rfl (lv_at hl 0 rfl) ?_
        refine r_getN F I hr_x0 hk_x0 fX8_72 (f := 9) rfl (by decide) dX8_copy_112 h (fun b8 hr_b8 hk_b8 h => ?_)
        refine lv_iload F.1 F.2.1 dX8_copy_115 (lv_at hl 6 rfl) ?_
        refine lv_aload_n F.1 F.2.1 dX8_copy_117 rfl (lv_at hl 0 rfl) ?_
        refine r_getN F I hr_x0 hk_x0 fX8_57 (f := 9) rfl (by decide) dX8_copy_118 h (fun b9 hr_b9 hk_b9 h => ?_)
        refine lv_bipush (v := 24) F.1 F.2.1 dX8_copy_121 (by decide) ?_
        refine lv_iload_n F.1 F.2.1 dX8_copy_123 rfl (lv_at hl 1 rfl) ?_
        refine r_imul F dX8_copy_124 h (fun z10 h => ?_)
        refine lv_iload_n F.1 F.2.1 dX8_copy_125 rfl (lv_at hl 2 rfl) ?_
        refine r_iadd F dX8_copy_126 h (fun z11 h => ?_)
        refine lv_iload F.1 F.2.1 dX8_copy_127 (lv_at hl 6 rfl) ?_
        refine r_iadd F dX8_copy_129 h (fun z12 h => ?_)
        refine r_ald F I hr_b9 hk_b9 dX8_copy_130 h (fun z13 h => ?_)
        refine r_ast F I hr_b8 hk_b8 dX8_copy_131 h (fun S H locs I h => ?_)
        obtain ⟨z14, e_z14, h⟩ := lt_x h
        refine lv_iinc (v := z14) (lv' := [(6, .int z14), (0, .ref (gz g + x0)), (1, .int x1), (2, .int x2), (3, .int x3), (4, .int x4), (5, .int x5)]) F.1 F.2.1 dX8_copy_132 hl (k := 6) rfl (by rw [e_z14]; rfl) (by decide) rfl (fun ls hl => ?_)
        refine lv_goto (tgt := 104) F.1 F.2.1 dX8_copy_135 (by decide) ?_
        exact hk104 S _ _ _ x0 x1 x2 x3 x4 x5 z14 hr_x0 hk_x0 h I (lv_sub hl [1, 2, 3, 4, 5, 6, 0] rfl)
  have hj_97 : ∀ (S : HC) (H : Heap) (locs : List Loc) (ls : Array Slot), BX8_copy_97 ln post S  → Inv g N ln S s H locs → lv_has ls 7 [] → W p l e rmX8_copy s m ([.ref (gz g + a0), .int a1, .int a2, .int a3, .int a4, .int a5] : List Value).toArray below meth c H locs 0 0 (MQ below (QI g N ln post) ([.ref (gz g + a0), .int a1, .int a2, .int a3, .int a4, .int a5] : List Value).toArray s 0 0 (gF g)) (F0 m 97 ls []) := by
    intro S H locs ls h I hl
    unfold BX8_copy_97 at h
    refine lv_ldcw F.1 F.2.1 F.2.2.2.1 (F.2.2.2.2 _ tw_1333) dX8_copy_97 ?_
    exact r_ireturn F I ⟨hr.1, hr.2.1, trivial⟩ h dX8_copy_100
  have hj_35 : ∀ (S : HC) (H : Heap) (locs : List Loc) (ls : Array Slot), BX8_copy_35 ln post S  → Inv g N ln S s H locs → lv_has ls 7 [] → W p l e rmX8_copy s m ([.ref (gz g + a0), .int a1, .int a2, .int a3, .int a4, .int a5] : List Value).toArray below meth c H locs 0 0 (MQ below (QI g N ln post) ([.ref (gz g + a0), .int a1, .int a2, .int a3, .int a4, .int a5] : List Value).toArray s 0 0 (gF g)) (F0 m 35 ls []) := by
    intro S H locs ls h I hl
    unfold BX8_copy_35 at h
    refine lv_ldc F.1 F.2.1 F.2.2.2.1 (F.2.2.2.2 _ tw_1248) dX8_copy_35 ?_
    exact r_ireturn F I ⟨hr.1, hr.2.1, trivial⟩ h dX8_copy_37
  have hj_14 : ∀ (S : HC) (H : Heap) (locs : List Loc) (ls : Array Slot), BX8_copy_14 ln post S  → Inv g N ln S s H locs → lv_has ls 7 [] → W p l e rmX8_copy s m ([.ref (gz g + a0), .int a1, .int a2, .int a3, .int a4, .int a5] : List Value).toArray below meth c H locs 0 0 (MQ below (QI g N ln post) ([.ref (gz g + a0), .int a1, .int a2, .int a3, .int a4, .int a5] : List Value).toArray s 0 0 (gF g)) (F0 m 14 ls []) := by
    intro S H locs ls h I hl
    unfold BX8_copy_14 at h
    refine lv_ldc F.1 F.2.1 F.2.2.2.1 (F.2.2.2.2 _ tw_1064) dX8_copy_14 ?_
    exact r_ireturn F I ⟨hr.1, hr.2.1, trivial⟩ h dX8_copy_16
  refine lv_iload_n F.1 F.2.1 dX8_copy_0 rfl (lv_at hl 1 rfl) ?_
  refine g_I I (run_S (As := [.int a1]) (rest := []) F I kX8_182 (ctX8_isSheet h) ⟨rfl, rfl⟩ ⟨Nat.le_of_ble_eq_true rfl, Nat.le_of_ble_eq_true rfl⟩ rfl hl.1 rfl (Nat.le_of_ble_eq_true rfl) ⟨Nat.le_of_ble_eq_true rfl, Nat.le_of_ble_eq_true rfl⟩ dX8_copy_1) (fun z15 S H locs I h => ?_)
  refine r_if_eq (tgt := 14) F dX8_copy_4 (by decide) h (fun h => ?_) (fun h => ?_)
  · exact hj_14 S _ _ _   h I (lv_sub hl [] rfl)
  · refine lv_iload_n F.1 F.2.1 dX8_copy_7 rfl (lv_at hl 3 rfl) ?_
    refine g_I I (run_S (As := [.int a3]) (rest := []) F I kX8_182 (ctX8_isSheet h) ⟨rfl, rfl⟩ ⟨Nat.le_of_ble_eq_true rfl, Nat.le_of_ble_eq_true rfl⟩ rfl hl.1 rfl (Nat.le_of_ble_eq_true rfl) ⟨Nat.le_of_ble_eq_true rfl, Nat.le_of_ble_eq_true rfl⟩ dX8_copy_8) (fun z16 S H locs I h => ?_)
    refine r_if_ne (tgt := 17) F dX8_copy_11 (by decide) h (fun h => ?_) (fun h => ?_)
    · refine lv_aload_n F.1 F.2.1 dX8_copy_17 rfl (lv_at hl 0 rfl) ?_
      refine r_getN F I hr_a0 hk_a0 fX8_51 (f := 9) rfl (by decide) dX8_copy_18 h (fun b17 hr_b17 hk_b17 h => ?_)
      refine lv_iload_n F.1 F.2.1 dX8_copy_21 rfl (lv_at hl 1 rfl) ?_
      refine r_ald F I hr_b17 hk_b17 dX8_copy_22 h (fun z18 h => ?_)
      refine r_if_lt (tgt := 35) F dX8_copy_23 (by decide) h (fun h => ?_) (fun h => ?_)
      · exact hj_35 S _ _ _   h I (lv_sub hl [] rfl)
      · refine lv_aload_n F.1 F.2.1 dX8_copy_26 rfl (lv_at hl 0 rfl) ?_
        refine r_getN F I hr_a0 hk_a0 fX8_51 (f := 9) rfl (by decide) dX8_copy_27 h (fun b19 hr_b19 hk_b19 h => ?_)
        refine lv_iload_n F.1 F.2.1 dX8_copy_30 rfl (lv_at hl 3 rfl) ?_
        refine r_ald F I hr_b19 hk_b19 dX8_copy_31 h (fun z20 h => ?_)
        refine r_if_ge (tgt := 38) F dX8_copy_32 (by decide) h (fun h => ?_) (fun h => ?_)
        · refine lv_aload_n F.1 F.2.1 dX8_copy_38 rfl (lv_at hl 0 rfl) ?_
          refine r_getN F I hr_a0 hk_a0 fX8_51 (f := 9) rfl (by decide) dX8_copy_39 h (fun b21 hr_b21 hk_b21 h => ?_)
          refine lv_iload_n F.1 F.2.1 dX8_copy_42 rfl (lv_at hl 1 rfl) ?_
          refine r_ald F I hr_b21 hk_b21 dX8_copy_43 h (fun z22 h => ?_)
          refine lv_aload_n F.1 F.2.1 dX8_copy_44 rfl (lv_at hl 0 rfl) ?_
          refine r_getN F I hr_a0 hk_a0 fX8_51 (f := 9) rfl (by decide) dX8_copy_45 h (fun b23 hr_b23 hk_b23 h => ?_)
          refine lv_iload_n F.1 F.2.1 dX8_copy_48 rfl (lv_at hl 3 rfl) ?_
          refine r_ald F I hr_b23 hk_b23 dX8_copy_49 h (fun z24 h => ?_)
          refine r_icmp_eq (tgt := 56) F dX8_copy_50 (by decide) h (fun h => ?_) (fun h => ?_)
          · refine lv_iload_n F.1 F.2.1 dX8_copy_56 rfl (lv_at hl 2 rfl) ?_
            refine r_if_lt (tgt := 97) F dX8_copy_57 (by decide) h (fun h => ?_) (fun h => ?_)
            · exact hj_97 S _ _ _   h I (lv_sub hl [] rfl)
            · refine lv_iload F.1 F.2.1 dX8_copy_60 (lv_at hl 4 rfl) ?_
              refine r_if_lt (tgt := 97) F dX8_copy_62 (by decide) h (fun h => ?_) (fun h => ?_)
              · exact hj_97 S _ _ _   h I (lv_sub hl [] rfl)
              · refine lv_iload F.1 F.2.1 dX8_copy_65 (lv_at hl 5 rfl) ?_
                refine r_if_lt (tgt := 97) F dX8_copy_67 (by decide) h (fun h => ?_) (fun h => ?_)
                · exact hj_97 S _ _ _   h I (lv_sub hl [] rfl)
                · refine lv_iload_n F.1 F.2.1 dX8_copy_70 rfl (lv_at hl 2 rfl) ?_
                  refine lv_aload_n F.1 F.2.1 dX8_copy_71 rfl (lv_at hl 0 rfl) ?_
                  refine r_getN F I hr_a0 hk_a0 fX8_54 (f := 9) rfl (by decide) dX8_copy_72 h (fun b25 hr_b25 hk_b25 h => ?_)
                  refine lv_iload_n F.1 F.2.1 dX8_copy_75 rfl (lv_at hl 1 rfl) ?_
                  refine r_ald F I hr_b25 hk_b25 dX8_copy_76 h (fun z26 h => ?_)
                  refine lv_iload F.1 F.2.1 dX8_copy_77 (lv_at hl 5 rfl) ?_
                  refine r_isub F dX8_copy_79 h (fun z27 h => ?_)
                  refine r_icmp_gt (tgt := 97) F dX8_copy_80 (by decide) h (fun h => ?_) (fun h => ?_)
                  · exact hj_97 S _ _ _   h I (lv_sub hl [] rfl)
                  · refine lv_iload F.1 F.2.1 dX8_copy_83 (lv_at hl 4 rfl) ?_
                    refine lv_aload_n F.1 F.2.1 dX8_copy_85 rfl (lv_at hl 0 rfl) ?_
                    refine r_getN F I hr_a0 hk_a0 fX8_54 (f := 9) rfl (by decide) dX8_copy_86 h (fun b28 hr_b28 hk_b28 h => ?_)
                    refine lv_iload_n F.1 F.2.1 dX8_copy_89 rfl (lv_at hl 3 rfl) ?_
                    refine r_ald F I hr_b28 hk_b28 dX8_copy_90 h (fun z29 h => ?_)
                    refine lv_iload F.1 F.2.1 dX8_copy_91 (lv_at hl 5 rfl) ?_
                    refine r_isub F dX8_copy_93 h (fun z30 h => ?_)
                    refine r_icmp_le (tgt := 101) F dX8_copy_94 (by decide) h (fun h => ?_) (fun h => ?_)
                    · refine lv_iconst (v := 0) F.1 F.2.1 dX8_copy_101 (by decide) ?_
                      refine lv_istore (lv' := [(6, .int (0 : Int32)), (0, .ref (gz g + a0)), (1, .int a1), (2, .int a2), (3, .int a3), (4, .int a4), (5, .int a5)]) F.1 F.2.1 dX8_copy_102 hl (by decide) rfl (fun ls hl => ?_)
                      obtain ⟨n104, h⟩ := h
                      exact hl_104 n104 S _ _ _ a0 a1 a2 a3 a4 a5 (0 : Int32) hr_a0 hk_a0 h I (lv_sub hl [1, 2, 3, 4, 5, 6, 0] rfl)
                    · exact hj_97 S _ _ _   h I (lv_sub hl [] rfl)
          · refine lv_ldc F.1 F.2.1 F.2.2.2.1 (F.2.2.2.2 _ tw_1127) dX8_copy_53 ?_
            exact r_ireturn F I ⟨hr.1, hr.2.1, trivial⟩ h dX8_copy_55
        · exact hj_35 S _ _ _   h I (lv_sub hl [] rfl)
    · exact hj_14 S _ _ _   h I (lv_sub hl [] rfl)
theorem bdX8_lay_0 : ∀ q ∈ ([(0, .iload_n 1, 1), (1, .invokestatic 262, 3), (4, .ifCond .eq 37, 3), (7, .iload_n 2, 1), (8, .iconst 0, 1), (9, .iconst 3, 1), (10, .invokestatic 79, 3), (13, .ifCond .eq 28, 3), (16, .iload_n 2, 1), (17, .iconst 1, 1), (18, .if_icmp .ne 11, 3), (21, .aload_n 0, 1), (22, .iload_n 3, 1), (23, .invokevirtual 83, 3), (26, .ifCond .eq 15, 3), (29, .iload_n 2, 1), (30, .iconst 2, 1), (31, .if_icmp .ne 13, 3), (34, .iload_n 3, 1), (35, .invokestatic 182, 3), (38, .ifCond .ne 6, 3), (41, .ldc 98, 2), (43, .ireturn, 1), (44, .iload_n 2, 1), (45, .iconst 2, 1), (46, .if_icmp .ne 15, 3), (49, .aload_n 0, 1), (50, .getfield 51, 3), (53, .iload_n 3, 1), (54, .iaload, 1), (55, .ifCond .ge 6, 3), (58, .ldc 185, 2), (60, .ireturn, 1), (61, .aload_n 0, 1), (62, .getfield 60, 3), (65, .iload_n 1, 1), (66, .iaload, 1), (67, .istore 4, 2), (69, .aload_n 0, 1), (70, .getfield 60, 3)] : List (Nat × Jvm.ClassFile.Instr × Nat)), decode cX8_lay q.1 = .ok q.2 := chk_ok _ 0 _ rfl (by decide +kernel)
theorem dX8_lay_0 : decode cX8_lay 0 = .ok (.iload_n 1, 1) := bdX8_lay_0 (0, .iload_n 1, 1) (List.mem_of_getElem? (i := 0) rfl)
theorem dX8_lay_1 : decode cX8_lay 1 = .ok (.invokestatic 262, 3) := bdX8_lay_0 (1, .invokestatic 262, 3) (List.mem_of_getElem? (i := 1) rfl)
theorem dX8_lay_4 : decode cX8_lay 4 = .ok (.ifCond .eq 37, 3) := bdX8_lay_0 (4, .ifCond .eq 37, 3) (List.mem_of_getElem? (i := 2) rfl)
theorem dX8_lay_7 : decode cX8_lay 7 = .ok (.iload_n 2, 1) := bdX8_lay_0 (7, .iload_n 2, 1) (List.mem_of_getElem? (i := 3) rfl)
theorem dX8_lay_8 : decode cX8_lay 8 = .ok (.iconst 0, 1) := bdX8_lay_0 (8, .iconst 0, 1) (List.mem_of_getElem? (i := 4) rfl)
theorem dX8_lay_9 : decode cX8_lay 9 = .ok (.iconst 3, 1) := bdX8_lay_0 (9, .iconst 3, 1) (List.mem_of_getElem? (i := 5) rfl)
theorem dX8_lay_10 : decode cX8_lay 10 = .ok (.invokestatic 79, 3) := bdX8_lay_0 (10, .invokestatic 79, 3) (List.mem_of_getElem? (i := 6) rfl)
theorem dX8_lay_13 : decode cX8_lay 13 = .ok (.ifCond .eq 28, 3) := bdX8_lay_0 (13, .ifCond .eq 28, 3) (List.mem_of_getElem? (i := 7) rfl)
theorem dX8_lay_16 : decode cX8_lay 16 = .ok (.iload_n 2, 1) := bdX8_lay_0 (16, .iload_n 2, 1) (List.mem_of_getElem? (i := 8) rfl)
theorem dX8_lay_17 : decode cX8_lay 17 = .ok (.iconst 1, 1) := bdX8_lay_0 (17, .iconst 1, 1) (List.mem_of_getElem? (i := 9) rfl)
theorem dX8_lay_18 : decode cX8_lay 18 = .ok (.if_icmp .ne 11, 3) := bdX8_lay_0 (18, .if_icmp .ne 11, 3) (List.mem_of_getElem? (i := 10) rfl)
theorem dX8_lay_21 : decode cX8_lay 21 = .ok (.aload_n 0, 1) := bdX8_lay_0 (21, .aload_n 0, 1) (List.mem_of_getElem? (i := 11) rfl)
theorem dX8_lay_22 : decode cX8_lay 22 = .ok (.iload_n 3, 1) := bdX8_lay_0 (22, .iload_n 3, 1) (List.mem_of_getElem? (i := 12) rfl)
theorem dX8_lay_23 : decode cX8_lay 23 = .ok (.invokevirtual 83, 3) := bdX8_lay_0 (23, .invokevirtual 83, 3) (List.mem_of_getElem? (i := 13) rfl)
theorem dX8_lay_26 : decode cX8_lay 26 = .ok (.ifCond .eq 15, 3) := bdX8_lay_0 (26, .ifCond .eq 15, 3) (List.mem_of_getElem? (i := 14) rfl)
theorem dX8_lay_29 : decode cX8_lay 29 = .ok (.iload_n 2, 1) := bdX8_lay_0 (29, .iload_n 2, 1) (List.mem_of_getElem? (i := 15) rfl)
theorem dX8_lay_30 : decode cX8_lay 30 = .ok (.iconst 2, 1) := bdX8_lay_0 (30, .iconst 2, 1) (List.mem_of_getElem? (i := 16) rfl)
theorem dX8_lay_31 : decode cX8_lay 31 = .ok (.if_icmp .ne 13, 3) := bdX8_lay_0 (31, .if_icmp .ne 13, 3) (List.mem_of_getElem? (i := 17) rfl)
theorem dX8_lay_34 : decode cX8_lay 34 = .ok (.iload_n 3, 1) := bdX8_lay_0 (34, .iload_n 3, 1) (List.mem_of_getElem? (i := 18) rfl)
theorem dX8_lay_35 : decode cX8_lay 35 = .ok (.invokestatic 182, 3) := bdX8_lay_0 (35, .invokestatic 182, 3) (List.mem_of_getElem? (i := 19) rfl)
theorem dX8_lay_38 : decode cX8_lay 38 = .ok (.ifCond .ne 6, 3) := bdX8_lay_0 (38, .ifCond .ne 6, 3) (List.mem_of_getElem? (i := 20) rfl)
theorem dX8_lay_41 : decode cX8_lay 41 = .ok (.ldc 98, 2) := bdX8_lay_0 (41, .ldc 98, 2) (List.mem_of_getElem? (i := 21) rfl)
theorem dX8_lay_43 : decode cX8_lay 43 = .ok (.ireturn, 1) := bdX8_lay_0 (43, .ireturn, 1) (List.mem_of_getElem? (i := 22) rfl)
theorem dX8_lay_44 : decode cX8_lay 44 = .ok (.iload_n 2, 1) := bdX8_lay_0 (44, .iload_n 2, 1) (List.mem_of_getElem? (i := 23) rfl)
theorem dX8_lay_45 : decode cX8_lay 45 = .ok (.iconst 2, 1) := bdX8_lay_0 (45, .iconst 2, 1) (List.mem_of_getElem? (i := 24) rfl)
theorem dX8_lay_46 : decode cX8_lay 46 = .ok (.if_icmp .ne 15, 3) := bdX8_lay_0 (46, .if_icmp .ne 15, 3) (List.mem_of_getElem? (i := 25) rfl)
theorem dX8_lay_49 : decode cX8_lay 49 = .ok (.aload_n 0, 1) := bdX8_lay_0 (49, .aload_n 0, 1) (List.mem_of_getElem? (i := 26) rfl)
theorem dX8_lay_50 : decode cX8_lay 50 = .ok (.getfield 51, 3) := bdX8_lay_0 (50, .getfield 51, 3) (List.mem_of_getElem? (i := 27) rfl)
theorem dX8_lay_53 : decode cX8_lay 53 = .ok (.iload_n 3, 1) := bdX8_lay_0 (53, .iload_n 3, 1) (List.mem_of_getElem? (i := 28) rfl)
theorem dX8_lay_54 : decode cX8_lay 54 = .ok (.iaload, 1) := bdX8_lay_0 (54, .iaload, 1) (List.mem_of_getElem? (i := 29) rfl)
theorem dX8_lay_55 : decode cX8_lay 55 = .ok (.ifCond .ge 6, 3) := bdX8_lay_0 (55, .ifCond .ge 6, 3) (List.mem_of_getElem? (i := 30) rfl)
theorem dX8_lay_58 : decode cX8_lay 58 = .ok (.ldc 185, 2) := bdX8_lay_0 (58, .ldc 185, 2) (List.mem_of_getElem? (i := 31) rfl)
theorem dX8_lay_60 : decode cX8_lay 60 = .ok (.ireturn, 1) := bdX8_lay_0 (60, .ireturn, 1) (List.mem_of_getElem? (i := 32) rfl)
theorem dX8_lay_61 : decode cX8_lay 61 = .ok (.aload_n 0, 1) := bdX8_lay_0 (61, .aload_n 0, 1) (List.mem_of_getElem? (i := 33) rfl)
theorem dX8_lay_62 : decode cX8_lay 62 = .ok (.getfield 60, 3) := bdX8_lay_0 (62, .getfield 60, 3) (List.mem_of_getElem? (i := 34) rfl)
theorem dX8_lay_65 : decode cX8_lay 65 = .ok (.iload_n 1, 1) := bdX8_lay_0 (65, .iload_n 1, 1) (List.mem_of_getElem? (i := 35) rfl)
theorem dX8_lay_66 : decode cX8_lay 66 = .ok (.iaload, 1) := bdX8_lay_0 (66, .iaload, 1) (List.mem_of_getElem? (i := 36) rfl)
theorem dX8_lay_67 : decode cX8_lay 67 = .ok (.istore 4, 2) := bdX8_lay_0 (67, .istore 4, 2) (List.mem_of_getElem? (i := 37) rfl)
theorem dX8_lay_69 : decode cX8_lay 69 = .ok (.aload_n 0, 1) := bdX8_lay_0 (69, .aload_n 0, 1) (List.mem_of_getElem? (i := 38) rfl)
theorem dX8_lay_70 : decode cX8_lay 70 = .ok (.getfield 60, 3) := bdX8_lay_0 (70, .getfield 60, 3) (List.mem_of_getElem? (i := 39) rfl)
theorem bdX8_lay_73 : ∀ q ∈ ([(73, .iload_n 1, 1), (74, .iload_n 2, 1), (75, .iastore, 1), (76, .aload_n 0, 1), (77, .getfield 63, 3), (80, .iload_n 1, 1), (81, .iload_n 2, 1), (82, .iconst 1, 1), (83, .if_icmp .ne 12, 3), (86, .aload_n 0, 1), (87, .iload_n 3, 1), (88, .iconst 0, 1), (89, .invokevirtual 87, 3), (92, .goto 18, 3), (95, .iload_n 2, 1), (96, .iconst 2, 1), (97, .if_icmp .ne 12, 3), (100, .aload_n 0, 1), (101, .getfield 54, 3), (104, .iload_n 3, 1), (105, .iaload, 1), (106, .goto 4, 3), (109, .iload_n 3, 1), (110, .iastore, 1), (111, .aload_n 0, 1), (112, .getfield 66, 3), (115, .iload_n 1, 1), (116, .iload_n 2, 1), (117, .iconst 1, 1), (118, .if_icmp .ne 11, 3), (121, .aload_n 0, 1), (122, .iload_n 3, 1), (123, .invokevirtual 104, 3), (126, .goto 4, 3), (129, .iconst 0, 1), (130, .iastore, 1), (131, .iconst 0, 1), (132, .istore 5, 2), (134, .iload 5, 2), (136, .bipush 24, 2)] : List (Nat × Jvm.ClassFile.Instr × Nat)), decode cX8_lay q.1 = .ok q.2 := chk_ok _ 73 _ rfl (by decide +kernel)
theorem dX8_lay_73 : decode cX8_lay 73 = .ok (.iload_n 1, 1) := bdX8_lay_73 (73, .iload_n 1, 1) (List.mem_of_getElem? (i := 0) rfl)
theorem dX8_lay_74 : decode cX8_lay 74 = .ok (.iload_n 2, 1) := bdX8_lay_73 (74, .iload_n 2, 1) (List.mem_of_getElem? (i := 1) rfl)
theorem dX8_lay_75 : decode cX8_lay 75 = .ok (.iastore, 1) := bdX8_lay_73 (75, .iastore, 1) (List.mem_of_getElem? (i := 2) rfl)
theorem dX8_lay_76 : decode cX8_lay 76 = .ok (.aload_n 0, 1) := bdX8_lay_73 (76, .aload_n 0, 1) (List.mem_of_getElem? (i := 3) rfl)
theorem dX8_lay_77 : decode cX8_lay 77 = .ok (.getfield 63, 3) := bdX8_lay_73 (77, .getfield 63, 3) (List.mem_of_getElem? (i := 4) rfl)
theorem dX8_lay_80 : decode cX8_lay 80 = .ok (.iload_n 1, 1) := bdX8_lay_73 (80, .iload_n 1, 1) (List.mem_of_getElem? (i := 5) rfl)
theorem dX8_lay_81 : decode cX8_lay 81 = .ok (.iload_n 2, 1) := bdX8_lay_73 (81, .iload_n 2, 1) (List.mem_of_getElem? (i := 6) rfl)
theorem dX8_lay_82 : decode cX8_lay 82 = .ok (.iconst 1, 1) := bdX8_lay_73 (82, .iconst 1, 1) (List.mem_of_getElem? (i := 7) rfl)
theorem dX8_lay_83 : decode cX8_lay 83 = .ok (.if_icmp .ne 12, 3) := bdX8_lay_73 (83, .if_icmp .ne 12, 3) (List.mem_of_getElem? (i := 8) rfl)
theorem dX8_lay_86 : decode cX8_lay 86 = .ok (.aload_n 0, 1) := bdX8_lay_73 (86, .aload_n 0, 1) (List.mem_of_getElem? (i := 9) rfl)
theorem dX8_lay_87 : decode cX8_lay 87 = .ok (.iload_n 3, 1) := bdX8_lay_73 (87, .iload_n 3, 1) (List.mem_of_getElem? (i := 10) rfl)
theorem dX8_lay_88 : decode cX8_lay 88 = .ok (.iconst 0, 1) := bdX8_lay_73 (88, .iconst 0, 1) (List.mem_of_getElem? (i := 11) rfl)
theorem dX8_lay_89 : decode cX8_lay 89 = .ok (.invokevirtual 87, 3) := bdX8_lay_73 (89, .invokevirtual 87, 3) (List.mem_of_getElem? (i := 12) rfl)
theorem dX8_lay_92 : decode cX8_lay 92 = .ok (.goto 18, 3) := bdX8_lay_73 (92, .goto 18, 3) (List.mem_of_getElem? (i := 13) rfl)
theorem dX8_lay_95 : decode cX8_lay 95 = .ok (.iload_n 2, 1) := bdX8_lay_73 (95, .iload_n 2, 1) (List.mem_of_getElem? (i := 14) rfl)
theorem dX8_lay_96 : decode cX8_lay 96 = .ok (.iconst 2, 1) := bdX8_lay_73 (96, .iconst 2, 1) (List.mem_of_getElem? (i := 15) rfl)
theorem dX8_lay_97 : decode cX8_lay 97 = .ok (.if_icmp .ne 12, 3) := bdX8_lay_73 (97, .if_icmp .ne 12, 3) (List.mem_of_getElem? (i := 16) rfl)
theorem dX8_lay_100 : decode cX8_lay 100 = .ok (.aload_n 0, 1) := bdX8_lay_73 (100, .aload_n 0, 1) (List.mem_of_getElem? (i := 17) rfl)
theorem dX8_lay_101 : decode cX8_lay 101 = .ok (.getfield 54, 3) := bdX8_lay_73 (101, .getfield 54, 3) (List.mem_of_getElem? (i := 18) rfl)
theorem dX8_lay_104 : decode cX8_lay 104 = .ok (.iload_n 3, 1) := bdX8_lay_73 (104, .iload_n 3, 1) (List.mem_of_getElem? (i := 19) rfl)
theorem dX8_lay_105 : decode cX8_lay 105 = .ok (.iaload, 1) := bdX8_lay_73 (105, .iaload, 1) (List.mem_of_getElem? (i := 20) rfl)
theorem dX8_lay_106 : decode cX8_lay 106 = .ok (.goto 4, 3) := bdX8_lay_73 (106, .goto 4, 3) (List.mem_of_getElem? (i := 21) rfl)
theorem dX8_lay_109 : decode cX8_lay 109 = .ok (.iload_n 3, 1) := bdX8_lay_73 (109, .iload_n 3, 1) (List.mem_of_getElem? (i := 22) rfl)
theorem dX8_lay_110 : decode cX8_lay 110 = .ok (.iastore, 1) := bdX8_lay_73 (110, .iastore, 1) (List.mem_of_getElem? (i := 23) rfl)
theorem dX8_lay_111 : decode cX8_lay 111 = .ok (.aload_n 0, 1) := bdX8_lay_73 (111, .aload_n 0, 1) (List.mem_of_getElem? (i := 24) rfl)
theorem dX8_lay_112 : decode cX8_lay 112 = .ok (.getfield 66, 3) := bdX8_lay_73 (112, .getfield 66, 3) (List.mem_of_getElem? (i := 25) rfl)
theorem dX8_lay_115 : decode cX8_lay 115 = .ok (.iload_n 1, 1) := bdX8_lay_73 (115, .iload_n 1, 1) (List.mem_of_getElem? (i := 26) rfl)
theorem dX8_lay_116 : decode cX8_lay 116 = .ok (.iload_n 2, 1) := bdX8_lay_73 (116, .iload_n 2, 1) (List.mem_of_getElem? (i := 27) rfl)
theorem dX8_lay_117 : decode cX8_lay 117 = .ok (.iconst 1, 1) := bdX8_lay_73 (117, .iconst 1, 1) (List.mem_of_getElem? (i := 28) rfl)
theorem dX8_lay_118 : decode cX8_lay 118 = .ok (.if_icmp .ne 11, 3) := bdX8_lay_73 (118, .if_icmp .ne 11, 3) (List.mem_of_getElem? (i := 29) rfl)
theorem dX8_lay_121 : decode cX8_lay 121 = .ok (.aload_n 0, 1) := bdX8_lay_73 (121, .aload_n 0, 1) (List.mem_of_getElem? (i := 30) rfl)
theorem dX8_lay_122 : decode cX8_lay 122 = .ok (.iload_n 3, 1) := bdX8_lay_73 (122, .iload_n 3, 1) (List.mem_of_getElem? (i := 31) rfl)
theorem dX8_lay_123 : decode cX8_lay 123 = .ok (.invokevirtual 104, 3) := bdX8_lay_73 (123, .invokevirtual 104, 3) (List.mem_of_getElem? (i := 32) rfl)
theorem dX8_lay_126 : decode cX8_lay 126 = .ok (.goto 4, 3) := bdX8_lay_73 (126, .goto 4, 3) (List.mem_of_getElem? (i := 33) rfl)
theorem dX8_lay_129 : decode cX8_lay 129 = .ok (.iconst 0, 1) := bdX8_lay_73 (129, .iconst 0, 1) (List.mem_of_getElem? (i := 34) rfl)
theorem dX8_lay_130 : decode cX8_lay 130 = .ok (.iastore, 1) := bdX8_lay_73 (130, .iastore, 1) (List.mem_of_getElem? (i := 35) rfl)
theorem dX8_lay_131 : decode cX8_lay 131 = .ok (.iconst 0, 1) := bdX8_lay_73 (131, .iconst 0, 1) (List.mem_of_getElem? (i := 36) rfl)
theorem dX8_lay_132 : decode cX8_lay 132 = .ok (.istore 5, 2) := bdX8_lay_73 (132, .istore 5, 2) (List.mem_of_getElem? (i := 37) rfl)
theorem dX8_lay_134 : decode cX8_lay 134 = .ok (.iload 5, 2) := bdX8_lay_73 (134, .iload 5, 2) (List.mem_of_getElem? (i := 38) rfl)
theorem dX8_lay_136 : decode cX8_lay 136 = .ok (.bipush 24, 2) := bdX8_lay_73 (136, .bipush 24, 2) (List.mem_of_getElem? (i := 39) rfl)
theorem bdX8_lay_138 : ∀ q ∈ ([(138, .if_icmp .ge 38, 3), (141, .iload_n 2, 1), (142, .iconst 2, 1), (143, .if_icmp .ne 33, 3), (146, .aload_n 0, 1), (147, .getfield 69, 3), (150, .bipush 24, 2), (152, .iload_n 1, 1), (153, .imul, 1), (154, .iload 5, 2), (156, .iadd, 1), (157, .aload_n 0, 1), (158, .getfield 57, 3), (161, .bipush 24, 2), (163, .iload_n 3, 1), (164, .imul, 1), (165, .iload 5, 2), (167, .iadd, 1), (168, .iaload, 1), (169, .iastore, 1), (170, .iinc 5 1, 3), (173, .goto (-39), 3), (176, .iload 4, 2), (178, .ireturn, 1)] : List (Nat × Jvm.ClassFile.Instr × Nat)), decode cX8_lay q.1 = .ok q.2 := chk_ok _ 138 _ rfl (by decide +kernel)
theorem dX8_lay_138 : decode cX8_lay 138 = .ok (.if_icmp .ge 38, 3) := bdX8_lay_138 (138, .if_icmp .ge 38, 3) (List.mem_of_getElem? (i := 0) rfl)
theorem dX8_lay_141 : decode cX8_lay 141 = .ok (.iload_n 2, 1) := bdX8_lay_138 (141, .iload_n 2, 1) (List.mem_of_getElem? (i := 1) rfl)
theorem dX8_lay_142 : decode cX8_lay 142 = .ok (.iconst 2, 1) := bdX8_lay_138 (142, .iconst 2, 1) (List.mem_of_getElem? (i := 2) rfl)
theorem dX8_lay_143 : decode cX8_lay 143 = .ok (.if_icmp .ne 33, 3) := bdX8_lay_138 (143, .if_icmp .ne 33, 3) (List.mem_of_getElem? (i := 3) rfl)
theorem dX8_lay_146 : decode cX8_lay 146 = .ok (.aload_n 0, 1) := bdX8_lay_138 (146, .aload_n 0, 1) (List.mem_of_getElem? (i := 4) rfl)
theorem dX8_lay_147 : decode cX8_lay 147 = .ok (.getfield 69, 3) := bdX8_lay_138 (147, .getfield 69, 3) (List.mem_of_getElem? (i := 5) rfl)
theorem dX8_lay_150 : decode cX8_lay 150 = .ok (.bipush 24, 2) := bdX8_lay_138 (150, .bipush 24, 2) (List.mem_of_getElem? (i := 6) rfl)
theorem dX8_lay_152 : decode cX8_lay 152 = .ok (.iload_n 1, 1) := bdX8_lay_138 (152, .iload_n 1, 1) (List.mem_of_getElem? (i := 7) rfl)
theorem dX8_lay_153 : decode cX8_lay 153 = .ok (.imul, 1) := bdX8_lay_138 (153, .imul, 1) (List.mem_of_getElem? (i := 8) rfl)
theorem dX8_lay_154 : decode cX8_lay 154 = .ok (.iload 5, 2) := bdX8_lay_138 (154, .iload 5, 2) (List.mem_of_getElem? (i := 9) rfl)
theorem dX8_lay_156 : decode cX8_lay 156 = .ok (.iadd, 1) := bdX8_lay_138 (156, .iadd, 1) (List.mem_of_getElem? (i := 10) rfl)
theorem dX8_lay_157 : decode cX8_lay 157 = .ok (.aload_n 0, 1) := bdX8_lay_138 (157, .aload_n 0, 1) (List.mem_of_getElem? (i := 11) rfl)
theorem dX8_lay_158 : decode cX8_lay 158 = .ok (.getfield 57, 3) := bdX8_lay_138 (158, .getfield 57, 3) (List.mem_of_getElem? (i := 12) rfl)
theorem dX8_lay_161 : decode cX8_lay 161 = .ok (.bipush 24, 2) := bdX8_lay_138 (161, .bipush 24, 2) (List.mem_of_getElem? (i := 13) rfl)
theorem dX8_lay_163 : decode cX8_lay 163 = .ok (.iload_n 3, 1) := bdX8_lay_138 (163, .iload_n 3, 1) (List.mem_of_getElem? (i := 14) rfl)
theorem dX8_lay_164 : decode cX8_lay 164 = .ok (.imul, 1) := bdX8_lay_138 (164, .imul, 1) (List.mem_of_getElem? (i := 15) rfl)
theorem dX8_lay_165 : decode cX8_lay 165 = .ok (.iload 5, 2) := bdX8_lay_138 (165, .iload 5, 2) (List.mem_of_getElem? (i := 16) rfl)
theorem dX8_lay_167 : decode cX8_lay 167 = .ok (.iadd, 1) := bdX8_lay_138 (167, .iadd, 1) (List.mem_of_getElem? (i := 17) rfl)
theorem dX8_lay_168 : decode cX8_lay 168 = .ok (.iaload, 1) := bdX8_lay_138 (168, .iaload, 1) (List.mem_of_getElem? (i := 18) rfl)
theorem dX8_lay_169 : decode cX8_lay 169 = .ok (.iastore, 1) := bdX8_lay_138 (169, .iastore, 1) (List.mem_of_getElem? (i := 19) rfl)
theorem dX8_lay_170 : decode cX8_lay 170 = .ok (.iinc 5 1, 3) := bdX8_lay_138 (170, .iinc 5 1, 3) (List.mem_of_getElem? (i := 20) rfl)
theorem dX8_lay_173 : decode cX8_lay 173 = .ok (.goto (-39), 3) := bdX8_lay_138 (173, .goto (-39), 3) (List.mem_of_getElem? (i := 21) rfl)
theorem dX8_lay_176 : decode cX8_lay 176 = .ok (.iload 4, 2) := bdX8_lay_138 (176, .iload 4, 2) (List.mem_of_getElem? (i := 22) rfl)
theorem dX8_lay_178 : decode cX8_lay 178 = .ok (.ireturn, 1) := bdX8_lay_138 (178, .ireturn, 1) (List.mem_of_getElem? (i := 23) rfl)
theorem fX8_69 : fldOK RX8 69 8 30 (.array .int) true := ⟨_, _, _, tyX8, ⟨rfl, iX8, by decide, rfl, by decide⟩, tw_967, ⟨tyX8_ok, nmX8⟩, by decide +kernel, rfl, rfl⟩
theorem fX8_66 : fldOK RX8 66 8 29 (.array .int) true := ⟨_, _, _, tyX8, ⟨rfl, iX8, by decide, rfl, by decide⟩, tw_966, ⟨tyX8_ok, nmX8⟩, by decide +kernel, rfl, rfl⟩
theorem fX8_60 : fldOK RX8 60 8 27 (.array .int) true := ⟨_, _, _, tyX8, ⟨rfl, iX8, by decide, rfl, by decide⟩, tw_964, ⟨tyX8_ok, nmX8⟩, by decide +kernel, rfl, rfl⟩
theorem fX8_63 : fldOK RX8 63 8 28 (.array .int) true := ⟨_, _, _, tyX8, ⟨rfl, iX8, by decide, rfl, by decide⟩, tw_965, ⟨tyX8_ok, nmX8⟩, by decide +kernel, rfl, rfl⟩
theorem kX8_262 : mthS RX8 262 yX8_isSlot prog_10_method_74_code 1 (Option.some Jvm.ClassFile.FieldType.boolean) 1 := ⟨⟨⟨tw_1352, tw_67, tw_1354⟩, rfl, by decide +kernel⟩, tw_1353⟩
def BX8_lay_176 (ln : Nat → Nat) (post : Int32 → HC → Prop) (S : HC) (x4 : Int32) : Prop := post x4 S
def LX8_lay_134 (ln : Nat → Nat) (post : Int32 → HC → Prop) : Nat → HC → Nat → Int32 → Int32 → Int32 → Int32 → Int32 → Prop
  | 0 => fun _ _ _ _ _ _ _ => False
  | n134 + 1 => fun S x0 x1 x2 x3 x4 x5 => if (24 : Int32) ≤ x5 then (BX8_lay_176 ln post S x4) else (if x2 = (2 : Int32) then (dn_ (hR S x0 30) fun b1 => lt_ ((24 : Int32) * x1) fun z2 => lt_ (z2 + x5) fun z3 => dn_ (hR S x0 26) fun b4 => lt_ ((24 : Int32) * x3) fun z5 => lt_ (z5 + x5) fun z6 => al_ (ln b4) z6 (hI S b4) fun z7 => as_ (ln b1) z3 (fun j => sI S b1 j z7) fun S => lt_ (x5 + (1 : Int32)) fun z8 => (LX8_lay_134 ln post n134) S x0 x1 x2 x3 x4 z8) else (BX8_lay_176 ln post S x4))
def BX8_lay_130 (ln : Nat → Nat) (post : Int32 → HC → Prop) (S : HC) (x0 : Nat) (x1 : Int32) (x2 : Int32) (x3 : Int32) (x4 : Int32) (t0 : Nat) (t1 : Int32) (t2 : Int32) : Prop := as_ (ln t0) t1 (fun j => sI S t0 j t2) fun S => ∃ n134, LX8_lay_134 ln post n134 S x0 x1 x2 x3 x4 (0 : Int32)
def BX8_lay_110 (ln : Nat → Nat) (post : Int32 → HC → Prop) (S : HC) (x0 : Nat) (x1 : Int32) (x2 : Int32) (x3 : Int32) (x4 : Int32) (t0 : Nat) (t1 : Int32) (t2 : Int32) : Prop := as_ (ln t0) t1 (fun j => sI S t0 j t2) fun S => dn_ (hR S x0 29) fun b9 => if x2 = (1 : Int32) then (wpX8_worthOf ln S x0 x3 fun z10 S => BX8_lay_130 ln post S x0 x1 x2 x3 x4 b9 x1 z10) else (BX8_lay_130 ln post S x0 x1 x2 x3 x4 b9 x1 (0 : Int32))
def BX8_lay_61 (ln : Nat → Nat) (post : Int32 → HC → Prop) (S : HC) (x0 : Nat) (x1 : Int32) (x2 : Int32) (x3 : Int32) : Prop := dn_ (hR S x0 27) fun b11 => al_ (ln b11) x1 (hI S b11) fun z12 => dn_ (hR S x0 27) fun b13 => as_ (ln b13) x1 (fun j => sI S b13 j x2) fun S => dn_ (hR S x0 28) fun b14 => if x2 = (1 : Int32) then (wpX8_of ln S x0 x3 (0 : Int32) fun z17 S => BX8_lay_110 ln post S x0 x1 x2 x3 z12 b14 x1 z17) else (if x2 = (2 : Int32) then (dn_ (hR S x0 25) fun b15 => al_ (ln b15) x3 (hI S b15) fun z16 => BX8_lay_110 ln post S x0 x1 x2 x3 z12 b14 x1 z16) else (BX8_lay_110 ln post S x0 x1 x2 x3 z12 b14 x1 x3))
def BX8_lay_44 (ln : Nat → Nat) (post : Int32 → HC → Prop) (S : HC) (x0 : Nat) (x1 : Int32) (x2 : Int32) (x3 : Int32) : Prop := if x2 = (2 : Int32) then (dn_ (hR S x0 24) fun b18 => al_ (ln b18) x3 (hI S b18) fun z19 => if 0 ≤ z19 then (BX8_lay_61 ln post S x0 x1 x2 x3) else (post (-1000000011 : Int32) S)) else (BX8_lay_61 ln post S x0 x1 x2 x3)
def BX8_lay_41 (ln : Nat → Nat) (post : Int32 → HC → Prop) (S : HC)  : Prop := post (-1000000001 : Int32) S
def BX8_lay_29 (ln : Nat → Nat) (post : Int32 → HC → Prop) (S : HC) (x0 : Nat) (x1 : Int32) (x2 : Int32) (x3 : Int32) : Prop := if x2 = (2 : Int32) then (wpX8_isSheet ln S x3 fun z20 S => if z20 = 0 then (BX8_lay_41 ln post S) else (BX8_lay_44 ln post S x0 x1 x2 x3)) else (BX8_lay_44 ln post S x0 x1 x2 x3)
def wpX8_lay (ln : Nat → Nat) (S : HC) (a0 : Nat) (a1 : Int32) (a2 : Int32) (a3 : Int32) (post : Int32 → HC → Prop) : Prop := wpX8_isSlot ln S a1 fun z21 S => if z21 = 0 then (BX8_lay_41 ln post S) else (wpX8_in ln S a2 (0 : Int32) (3 : Int32) fun z22 S => if z22 = 0 then (BX8_lay_41 ln post S) else (if a2 = (1 : Int32) then (wpX8_isOne ln S a0 a3 fun z23 S => if z23 = 0 then (BX8_lay_41 ln post S) else (BX8_lay_29 ln post S a0 a1 a2 a3)) else (BX8_lay_29 ln post S a0 a1 a2 a3)))
abbrev rmX8_lay : Room := { frames := 2, cells := 0, slots := 0, locals := 44 }
set_option maxHeartbeats 4000000 in
set_option maxRecDepth 100000 in
theorem ctX8_lay {l : Launch} {g : GX} {N : Nat} {ln : Nat → Nat} {S : HC} {a0 : Nat} {a1 : Int32} {a2 : Int32} {a3 : Int32} {post : Int32 → HC → Prop} (hr_a0 : a0 < N) (hk_a0 : kd a0 = 8) (h : wpX8_lay ln S a0 a1 a2 a3 post) : Met l yX8_lay (Cond.code yX8_lay prog_10_method_80_code 6 (Option.some Jvm.ClassFile.FieldType.int) :: gtbl) rmX8_lay (va_Pc [.ref (gz g + a0), .int a1, .int a2, .int a3] (AtP g N ln S)) (QI g N ln post) 0 0 (gF g) := by
  refine m_of (by decide) (Nat.le_of_ble_eq_true rfl) ?_
  intro p e s m below meth c ls F hr I hl
  have hl : lv_has ls 6 [(0, .ref (gz g + a0)), (1, .int a1), (2, .int a2), (3, .int a3)] := hl
  unfold wpX8_lay at h
  have hj_176 : ∀ (S : HC) (H : Heap) (locs : List Loc) (ls : Array Slot) (x4 : Int32), BX8_lay_176 ln post S x4 → Inv g N ln S s H locs → lv_has ls 6 [(4, .int x4)] → W p l e rmX8_lay s m ([.ref (gz g + a0), .int a1, .int a2, .int a3] : List Value).toArray below meth c H locs 0 0 (MQ below (QI g N ln post) ([.ref (gz g + a0), .int a1, .int a2, .int a3] : List Value).toArray s 0 0 (gF g)) (F0 m 176 ls []) := by
    intro S H locs ls x4 h I hl
    unfold BX8_lay_176 at h
    refine lv_iload F.1 F.2.1 dX8_lay_176 (lv_at hl 0 rfl) ?_
    exact r_ireturn F I ⟨hr.1, hr.2.1, trivial⟩ h dX8_lay_178
  have hl_134 : ∀ n134 : Nat, ∀ (S : HC) (H : Heap) (locs : List Loc) (ls : Array Slot) (x0 : Nat) (x1 : Int32) (x2 : Int32) (x3 : Int32) (x4 : Int32) (x5 : Int32), x0 < N → kd x0 = 8 → LX8_lay_134 ln post n134 S x0 x1 x2 x3 x4 x5 → Inv g N ln S s H locs → lv_has ls 6 [(0, .ref (gz g + x0)), (1, .int x1), (2, .int x2), (3, .int x3), (4, .int x4), (5, .int x5)] → W p l e rmX8_lay s m ([.ref (gz g + a0), .int a1, .int a2, .int a3] : List Value).toArray below meth c H locs 0 0 (MQ below (QI g N ln post) ([.ref (gz g + a0), .int a1, .int a2, .int a3] : List Value).toArray s 0 0 (gF g)) (F0 m 134 ls []) := by
    intro n134
    induction n134 with
    | zero =>
      intro S H locs ls x0 x1 x2 x3 x4 x5 hr_x0 hk_x0 h I hl
      exact h.elim
    | succ n134 ih =>
      have hk134 := ih
      intro S H locs ls x0 x1 x2 x3 x4 x5 hr_x0 hk_x0 h I hl
      rw [LX8_lay_134] at h
      refine lv_iload F.1 F.2.1 dX8_lay_134 (lv_at hl 5 rfl) ?_
      refine lv_bipush (v := 24) F.1 F.2.1 dX8_lay_136 (by decide) ?_
      refine r_icmp_ge (tgt := 176) F dX8_lay_138 (by decide) h (fun h => ?_) (fun h => ?_)
      · exact hj_176 S _ _ _ x4  h I (lv_sub hl [4] rfl)
      · refine lv_iload_n F.1 F.2.1 dX8_lay_141 rfl (lv_at hl 2 rfl) ?_
        refine lv_iconst (v := 2) F.1 F.2.1 dX8_lay_142 (by decide) ?_
        refine r_icmp_ne (tgt := 176) F dX8_lay_143 (by decide) h (fun h => ?_) (fun h => ?_)
        · exact hj_176 S _ _ _ x4  h I (lv_sub hl [4] rfl)
        · refine lv_aload_n F.1 F.2.1 dX8_lay_146 rfl (lv_at hl 0 rfl) ?_
          refine r_getN F I hr_x0 hk_x0 fX8_69 (f := 9) rfl (by decide) dX8_lay_147 h (fun b1 hr_b1 hk_b1 h => ?_)
          refine lv_bipush (v := 24) F.1 F.2.1 dX8_lay_150 (by decide) ?_
          refine lv_iload_n F.1 F.2.1 dX8_lay_152 rfl (lv_at hl 1 rfl) ?_
          refine r_imul F dX8_lay_153 h (fun z2 h => ?_)
          refine lv_iload F.1 F.2.1 dX8_lay_154 (lv_at hl 5 rfl) ?_
          refine r_iadd F dX8_lay_156 h (fun z3 h => ?_)
          refine lv_aload_n F.1 F.2.1 dX8_lay_157 rfl (lv_at hl 0 rfl) ?_
          refine r_getN F I hr_x0 hk_x0 fX8_57 (f := 9) rfl (by decide) dX8_lay_158 h (fun b4 hr_b4 hk_b4 h => ?_)
          refine lv_bipush (v := 24) F.1 F.2.1 dX8_lay_161 (by decide) ?_
          refine lv_iload_n F.1 F.2.1 dX8_lay_163 rfl (lv_at hl 3 rfl) ?_
          refine r_imul F dX8_lay_164 h (fun z5 h => ?_)
          refine lv_iload F.1 F.2.1 dX8_lay_165 (lv_at hl 5 rfl) ?_
          refine r_iadd F dX8_lay_167 h (fun z6 h => ?_)
          refine r_ald F I hr_b4 hk_b4 dX8_lay_168 h (fun z7 h => ?_)
          refine r_ast F I hr_b1 hk_b1 dX8_lay_169 h (fun S H locs I h => ?_)
          obtain ⟨z8, e_z8, h⟩ := lt_x h
          refine lv_iinc (v := z8) (lv' := [(5, .int z8), (0, .ref (gz g + x0)), (1, .int x1), (2, .int x2), (3, .int x3), (4, .int x4)]) F.1 F.2.1 dX8_lay_170 hl (k := 5) rfl (by rw [e_z8]; rfl) (by decide) rfl (fun ls hl => ?_)
          refine lv_goto (tgt := 134) F.1 F.2.1 dX8_lay_173 (by decide) ?_
          exact hk134 S _ _ _ x0 x1 x2 x3 x4 z8 hr_x0 hk_x0 h I (lv_sub hl [1, 2, 3, 4, 5, 0] rfl)
  have hj_130 : ∀ (S : HC) (H : Heap) (locs : List Loc) (ls : Array Slot) (x0 : Nat) (x1 : Int32) (x2 : Int32) (x3 : Int32) (x4 : Int32) (t0 : Nat) (t1 : Int32) (t2 : Int32), x0 < N → kd x0 = 8 → t0 < N → kd t0 = 9 → BX8_lay_130 ln post S x0 x1 x2 x3 x4 t0 t1 t2 → Inv g N ln S s H locs → lv_has ls 6 [(0, .ref (gz g + x0)), (1, .int x1), (2, .int x2), (3, .int x3), (4, .int x4)] → W p l e rmX8_lay s m ([.ref (gz g + a0), .int a1, .int a2, .int a3] : List Value).toArray below meth c H locs 0 0 (MQ below (QI g N ln post) ([.ref (gz g + a0), .int a1, .int a2, .int a3] : List Value).toArray s 0 0 (gF g)) (F0 m 130 ls [.int t2, .int t1, .ref (gz g + t0)]) := by
    intro S H locs ls x0 x1 x2 x3 x4 t0 t1 t2 hr_x0 hk_x0 hr_t0 hk_t0 h I hl
    unfold BX8_lay_130 at h
    refine r_ast F I hr_t0 hk_t0 dX8_lay_130 h (fun S H locs I h => ?_)
    refine lv_iconst (v := 0) F.1 F.2.1 dX8_lay_131 (by decide) ?_
    refine lv_istore (lv' := [(5, .int (0 : Int32)), (0, .ref (gz g + x0)), (1, .int x1), (2, .int x2), (3, .int x3), (4, .int x4)]) F.1 F.2.1 dX8_lay_132 hl (by decide) rfl (fun ls hl => ?_)
    obtain ⟨n134, h⟩ := h
    exact hl_134 n134 S _ _ _ x0 x1 x2 x3 x4 (0 : Int32) hr_x0 hk_x0 h I (lv_sub hl [1, 2, 3, 4, 5, 0] rfl)
  have hj_110 : ∀ (S : HC) (H : Heap) (locs : List Loc) (ls : Array Slot) (x0 : Nat) (x1 : Int32) (x2 : Int32) (x3 : Int32) (x4 : Int32) (t0 : Nat) (t1 : Int32) (t2 : Int32), x0 < N → kd x0 = 8 → t0 < N → kd t0 = 9 → BX8_lay_110 ln post S x0 x1 x2 x3 x4 t0 t1 t2 → Inv g N ln S s H locs → lv_has ls 6 [(0, .ref (gz g + x0)), (1, .int x1), (2, .int x2), (3, .int x3), (4, .int x4)] → W p l e rmX8_lay s m ([.ref (gz g + a0), .int a1, .int a2, .int a3] : List Value).toArray below meth c H locs 0 0 (MQ below (QI g N ln post) ([.ref (gz g + a0), .int a1, .int a2, .int a3] : List Value).toArray s 0 0 (gF g)) (F0 m 110 ls [.int t2, .int t1, .ref (gz g + t0)]) := by
    intro S H locs ls x0 x1 x2 x3 x4 t0 t1 t2 hr_x0 hk_x0 hr_t0 hk_t0 h I hl
    unfold BX8_lay_110 at h
    refine r_ast F I hr_t0 hk_t0 dX8_lay_110 h (fun S H locs I h => ?_)
    refine lv_aload_n F.1 F.2.1 dX8_lay_111 rfl (lv_at hl 0 rfl) ?_
    refine r_getN F I hr_x0 hk_x0 fX8_66 (f := 9) rfl (by decide) dX8_lay_112 h (fun b9 hr_b9 hk_b9 h => ?_)
    refine lv_iload_n F.1 F.2.1 dX8_lay_115 rfl (lv_at hl 1 rfl) ?_
    refine lv_iload_n F.1 F.2.1 dX8_lay_116 rfl (lv_at hl 2 rfl) ?_
    refine lv_iconst (v := 1) F.1 F.2.1 dX8_lay_117 (by decide) ?_
    refine r_icmp_ne (tgt := 129) F dX8_lay_118 (by decide) h (fun h => ?_) (fun h => ?_)
    · refine lv_iconst (v := 0) F.1 F.2.1 dX8_lay_129 (by decide) ?_
      exact hj_130 S _ _ _ x0 x1 x2 x3 x4 b9 x1 (0 : Int32) hr_x0 hk_x0 hr_b9 hk_b9 h I (lv_sub hl [0, 1, 2, 3, 4] rfl)
    · refine lv_aload_n F.1 F.2.1 dX8_lay_121 rfl (lv_at hl 0 rfl) ?_
      refine lv_iload_n F.1 F.2.1 dX8_lay_122 rfl (lv_at hl 3 rfl) ?_
      refine g_I I (run_V (As := [.int x3]) (rest := [.int x1, .ref (gz g + b9)]) F I hr_x0 hk_x0 (by decide) kX8_104 (ctX8_worthOf hr_x0 hk_x0 h) ⟨rfl, rfl⟩ ⟨Nat.le_of_ble_eq_true rfl, Nat.le_of_ble_eq_true rfl⟩ rfl hl.1 rfl (Nat.le_of_ble_eq_true rfl) ⟨Nat.le_of_ble_eq_true rfl, Nat.le_of_ble_eq_true rfl⟩ dX8_lay_123) (fun z10 S H locs I h => ?_)
      refine lv_goto (tgt := 130) F.1 F.2.1 dX8_lay_126 (by decide) ?_
      exact hj_130 S _ _ _ x0 x1 x2 x3 x4 b9 x1 z10 hr_x0 hk_x0 hr_b9 hk_b9 h I (lv_sub hl [0, 1, 2, 3, 4] rfl)
  have hj_61 : ∀ (S : HC) (H : Heap) (locs : List Loc) (ls : Array Slot) (x0 : Nat) (x1 : Int32) (x2 : Int32) (x3 : Int32), x0 < N → kd x0 = 8 → BX8_lay_61 ln post S x0 x1 x2 x3 → Inv g N ln S s H locs → lv_has ls 6 [(0, .ref (gz g + x0)), (1, .int x1), (2, .int x2), (3, .int x3)] → W p l e rmX8_lay s m ([.ref (gz g + a0), .int a1, .int a2, .int a3] : List Value).toArray below meth c H locs 0 0 (MQ below (QI g N ln post) ([.ref (gz g + a0), .int a1, .int a2, .int a3] : List Value).toArray s 0 0 (gF g)) (F0 m 61 ls []) := by
    intro S H locs ls x0 x1 x2 x3 hr_x0 hk_x0 h I hl
    unfold BX8_lay_61 at h
    refine lv_aload_n F.1 F.2.1 dX8_lay_61 rfl (lv_at hl 0 rfl) ?_
    refine r_getN F I hr_x0 hk_x0 fX8_60 (f := 9) rfl (by decide) dX8_lay_62 h (fun b11 hr_b11 hk_b11 h => ?_)
    refine lv_iload_n F.1 F.2.1 dX8_lay_65 rfl (lv_at hl 1 rfl) ?_
    refine r_ald F I hr_b11 hk_b11 dX8_lay_66 h (fun z12 h => ?_)
    refine lv_istore (lv' := [(4, .int z12), (0, .ref (gz g + x0)), (1, .int x1), (2, .int x2), (3, .int x3)]) F.1 F.2.1 dX8_lay_67 hl (by decide) rfl (fun ls hl => ?_)
    refine lv_aload_n F.1 F.2.1 dX8_lay_69 rfl (lv_at hl 1 rfl) ?_
    refine r_getN F I hr_x0 hk_x0 fX8_60 (f := 9) rfl (by decide) dX8_lay_70 h (fun b13 hr_b13 hk_b13 h => ?_)
    refine lv_iload_n F.1 F.2.1 dX8_lay_73 rfl (lv_at hl 2 rfl) ?_
    refine lv_iload_n F.1 F.2.1 dX8_lay_74 rfl (lv_at hl 3 rfl) ?_
    refine r_ast F I hr_b13 hk_b13 dX8_lay_75 h (fun S H locs I h => ?_)
    refine lv_aload_n F.1 F.2.1 dX8_lay_76 rfl (lv_at hl 1 rfl) ?_
    refine r_getN F I hr_x0 hk_x0 fX8_63 (f := 9) rfl (by decide) dX8_lay_77 h (fun b14 hr_b14 hk_b14 h => ?_)
    refine lv_iload_n F.1 F.2.1 dX8_lay_80 rfl (lv_at hl 2 rfl) ?_
    refine lv_iload_n F.1 F.2.1 dX8_lay_81 rfl (lv_at hl 3 rfl) ?_
    refine lv_iconst (v := 1) F.1 F.2.1 dX8_lay_82 (by decide) ?_
    refine r_icmp_ne (tgt := 95) F dX8_lay_83 (by decide) h (fun h => ?_) (fun h => ?_)
    · refine lv_iload_n F.1 F.2.1 dX8_lay_95 rfl (lv_at hl 3 rfl) ?_
      refine lv_iconst (v := 2) F.1 F.2.1 dX8_lay_96 (by decide) ?_
      refine r_icmp_ne (tgt := 109) F dX8_lay_97 (by decide) h (fun h => ?_) (fun h => ?_)
      · refine lv_iload_n F.1 F.2.1 dX8_lay_109 rfl (lv_at hl 4 rfl) ?_
        exact hj_110 S _ _ _ x0 x1 x2 x3 z12 b14 x1 x3 hr_x0 hk_x0 hr_b14 hk_b14 h I (lv_sub hl [1, 2, 3, 4, 0] rfl)
      · refine lv_aload_n F.1 F.2.1 dX8_lay_100 rfl (lv_at hl 1 rfl) ?_
        refine r_getN F I hr_x0 hk_x0 fX8_54 (f := 9) rfl (by decide) dX8_lay_101 h (fun b15 hr_b15 hk_b15 h => ?_)
        refine lv_iload_n F.1 F.2.1 dX8_lay_104 rfl (lv_at hl 4 rfl) ?_
        refine r_ald F I hr_b15 hk_b15 dX8_lay_105 h (fun z16 h => ?_)
        refine lv_goto (tgt := 110) F.1 F.2.1 dX8_lay_106 (by decide) ?_
        exact hj_110 S _ _ _ x0 x1 x2 x3 z12 b14 x1 z16 hr_x0 hk_x0 hr_b14 hk_b14 h I (lv_sub hl [1, 2, 3, 4, 0] rfl)
    · refine lv_aload_n F.1 F.2.1 dX8_lay_86 rfl (lv_at hl 1 rfl) ?_
      refine lv_iload_n F.1 F.2.1 dX8_lay_87 rfl (lv_at hl 4 rfl) ?_
      refine lv_iconst (v := 0) F.1 F.2.1 dX8_lay_88 (by decide) ?_
      refine g_I I (run_V (As := [.int x3, .int (0 : Int32)]) (rest := [.int x1, .ref (gz g + b14)]) F I hr_x0 hk_x0 (by decide) kX8_87 (ctX8_of hr_x0 hk_x0 h) ⟨rfl, rfl⟩ ⟨Nat.le_of_ble_eq_true rfl, Nat.le_of_ble_eq_true rfl⟩ rfl hl.1 rfl (Nat.le_of_ble_eq_true rfl) ⟨Nat.le_of_ble_eq_true rfl, Nat.le_of_ble_eq_true rfl⟩ dX8_lay_89) (fun z17 S H locs I h => ?_)
      refine lv_goto (tgt := 110) F.1 F.2.1 dX8_lay_92 (by decide) ?_
      exact hj_110 S _ _ _ x0 x1 x2 x3 z12 b14 x1 z17 hr_x0 hk_x0 hr_b14 hk_b14 h I (lv_sub hl [1, 2, 3, 4, 0] rfl)
  have hj_44 : ∀ (S : HC) (H : Heap) (locs : List Loc) (ls : Array Slot) (x0 : Nat) (x1 : Int32) (x2 : Int32) (x3 : Int32), x0 < N → kd x0 = 8 → BX8_lay_44 ln post S x0 x1 x2 x3 → Inv g N ln S s H locs → lv_has ls 6 [(0, .ref (gz g + x0)), (1, .int x1), (2, .int x2), (3, .int x3)] → W p l e rmX8_lay s m ([.ref (gz g + a0), .int a1, .int a2, .int a3] : List Value).toArray below meth c H locs 0 0 (MQ below (QI g N ln post) ([.ref (gz g + a0), .int a1, .int a2, .int a3] : List Value).toArray s 0 0 (gF g)) (F0 m 44 ls []) := by
    intro S H locs ls x0 x1 x2 x3 hr_x0 hk_x0 h I hl
    unfold BX8_lay_44 at h
    refine lv_iload_n F.1 F.2.1 dX8_lay_44 rfl (lv_at hl 2 rfl) ?_
    refine lv_iconst (v := 2) F.1 F.2.1 dX8_lay_45 (by decide) ?_
    refine r_icmp_ne (tgt := 61) F dX8_lay_46 (by decide) h (fun h => ?_) (fun h => ?_)
    · exact hj_61 S _ _ _ x0 x1 x2 x3 hr_x0 hk_x0 h I (lv_sub hl [0, 1, 2, 3] rfl)
    · refine lv_aload_n F.1 F.2.1 dX8_lay_49 rfl (lv_at hl 0 rfl) ?_
      refine r_getN F I hr_x0 hk_x0 fX8_51 (f := 9) rfl (by decide) dX8_lay_50 h (fun b18 hr_b18 hk_b18 h => ?_)
      refine lv_iload_n F.1 F.2.1 dX8_lay_53 rfl (lv_at hl 3 rfl) ?_
      refine r_ald F I hr_b18 hk_b18 dX8_lay_54 h (fun z19 h => ?_)
      refine r_if_ge (tgt := 61) F dX8_lay_55 (by decide) h (fun h => ?_) (fun h => ?_)
      · exact hj_61 S _ _ _ x0 x1 x2 x3 hr_x0 hk_x0 h I (lv_sub hl [0, 1, 2, 3] rfl)
      · refine lv_ldc F.1 F.2.1 F.2.2.2.1 (F.2.2.2.2 _ tw_1248) dX8_lay_58 ?_
        exact r_ireturn F I ⟨hr.1, hr.2.1, trivial⟩ h dX8_lay_60
  have hj_41 : ∀ (S : HC) (H : Heap) (locs : List Loc) (ls : Array Slot), BX8_lay_41 ln post S  → Inv g N ln S s H locs → lv_has ls 6 [] → W p l e rmX8_lay s m ([.ref (gz g + a0), .int a1, .int a2, .int a3] : List Value).toArray below meth c H locs 0 0 (MQ below (QI g N ln post) ([.ref (gz g + a0), .int a1, .int a2, .int a3] : List Value).toArray s 0 0 (gF g)) (F0 m 41 ls []) := by
    intro S H locs ls h I hl
    unfold BX8_lay_41 at h
    refine lv_ldc F.1 F.2.1 F.2.2.2.1 (F.2.2.2.2 _ tw_1064) dX8_lay_41 ?_
    exact r_ireturn F I ⟨hr.1, hr.2.1, trivial⟩ h dX8_lay_43
  have hj_29 : ∀ (S : HC) (H : Heap) (locs : List Loc) (ls : Array Slot) (x0 : Nat) (x1 : Int32) (x2 : Int32) (x3 : Int32), x0 < N → kd x0 = 8 → BX8_lay_29 ln post S x0 x1 x2 x3 → Inv g N ln S s H locs → lv_has ls 6 [(0, .ref (gz g + x0)), (1, .int x1), (2, .int x2), (3, .int x3)] → W p l e rmX8_lay s m ([.ref (gz g + a0), .int a1, .int a2, .int a3] : List Value).toArray below meth c H locs 0 0 (MQ below (QI g N ln post) ([.ref (gz g + a0), .int a1, .int a2, .int a3] : List Value).toArray s 0 0 (gF g)) (F0 m 29 ls []) := by
    intro S H locs ls x0 x1 x2 x3 hr_x0 hk_x0 h I hl
    unfold BX8_lay_29 at h
    refine lv_iload_n F.1 F.2.1 dX8_lay_29 rfl (lv_at hl 2 rfl) ?_
    refine lv_iconst (v := 2) F.1 F.2.1 dX8_lay_30 (by decide) ?_
    refine r_icmp_ne (tgt := 44) F dX8_lay_31 (by decide) h (fun h => ?_) (fun h => ?_)
    · exact hj_44 S _ _ _ x0 x1 x2 x3 hr_x0 hk_x0 h I (lv_sub hl [0, 1, 2, 3] rfl)
    · refine lv_iload_n F.1 F.2.1 dX8_lay_34 rfl (lv_at hl 3 rfl) ?_
      refine g_I I (run_S (As := [.int x3]) (rest := []) F I kX8_182 (ctX8_isSheet h) ⟨rfl, rfl⟩ ⟨Nat.le_of_ble_eq_true rfl, Nat.le_of_ble_eq_true rfl⟩ rfl hl.1 rfl (Nat.le_of_ble_eq_true rfl) ⟨Nat.le_of_ble_eq_true rfl, Nat.le_of_ble_eq_true rfl⟩ dX8_lay_35) (fun z20 S H locs I h => ?_)
      refine r_if_ne (tgt := 44) F dX8_lay_38 (by decide) h (fun h => ?_) (fun h => ?_)
      · exact hj_44 S _ _ _ x0 x1 x2 x3 hr_x0 hk_x0 h I (lv_sub hl [0, 1, 2, 3] rfl)
      · exact hj_41 S _ _ _   h I (lv_sub hl [] rfl)
  refine lv_iload_n F.1 F.2.1 dX8_lay_0 rfl (lv_at hl 1 rfl) ?_
  refine g_I I (run_S (As := [.int a1]) (rest := []) F I kX8_262 (ctX8_isSlot h) ⟨rfl, rfl⟩ ⟨Nat.le_of_ble_eq_true rfl, Nat.le_of_ble_eq_true rfl⟩ rfl hl.1 rfl (Nat.le_of_ble_eq_true rfl) ⟨Nat.le_of_ble_eq_true rfl, Nat.le_of_ble_eq_true rfl⟩ dX8_lay_1) (fun z21 S H locs I h => ?_)
  refine r_if_eq (tgt := 41) F dX8_lay_4 (by decide) h (fun h => ?_) (fun h => ?_)
  · exact hj_41 S _ _ _   h I (lv_sub hl [] rfl)
  · refine lv_iload_n F.1 F.2.1 dX8_lay_7 rfl (lv_at hl 2 rfl) ?_
    refine lv_iconst (v := 0) F.1 F.2.1 dX8_lay_8 (by decide) ?_
    refine lv_iconst (v := 3) F.1 F.2.1 dX8_lay_9 (by decide) ?_
    refine g_I I (run_S (As := [.int a2, .int (0 : Int32), .int (3 : Int32)]) (rest := []) F I kX8_79 (ctX8_in h) ⟨rfl, rfl⟩ ⟨Nat.le_of_ble_eq_true rfl, Nat.le_of_ble_eq_true rfl⟩ rfl hl.1 rfl (Nat.le_of_ble_eq_true rfl) ⟨Nat.le_of_ble_eq_true rfl, Nat.le_of_ble_eq_true rfl⟩ dX8_lay_10) (fun z22 S H locs I h => ?_)
    refine r_if_eq (tgt := 41) F dX8_lay_13 (by decide) h (fun h => ?_) (fun h => ?_)
    · exact hj_41 S _ _ _   h I (lv_sub hl [] rfl)
    · refine lv_iload_n F.1 F.2.1 dX8_lay_16 rfl (lv_at hl 2 rfl) ?_
      refine lv_iconst (v := 1) F.1 F.2.1 dX8_lay_17 (by decide) ?_
      refine r_icmp_ne (tgt := 29) F dX8_lay_18 (by decide) h (fun h => ?_) (fun h => ?_)
      · exact hj_29 S _ _ _ a0 a1 a2 a3 hr_a0 hk_a0 h I (lv_sub hl [0, 1, 2, 3] rfl)
      · refine lv_aload_n F.1 F.2.1 dX8_lay_21 rfl (lv_at hl 0 rfl) ?_
        refine lv_iload_n F.1 F.2.1 dX8_lay_22 rfl (lv_at hl 3 rfl) ?_
        refine g_I I (run_V (As := [.int a3]) (rest := []) F I hr_a0 hk_a0 (by decide) kX8_83 (ctX8_isOne hr_a0 hk_a0 h) ⟨rfl, rfl⟩ ⟨Nat.le_of_ble_eq_true rfl, Nat.le_of_ble_eq_true rfl⟩ rfl hl.1 rfl (Nat.le_of_ble_eq_true rfl) ⟨Nat.le_of_ble_eq_true rfl, Nat.le_of_ble_eq_true rfl⟩ dX8_lay_23) (fun z23 S H locs I h => ?_)
        refine r_if_eq (tgt := 41) F dX8_lay_26 (by decide) h (fun h => ?_) (fun h => ?_)
        · exact hj_41 S _ _ _   h I (lv_sub hl [] rfl)
        · exact hj_29 S _ _ _ a0 a1 a2 a3 hr_a0 hk_a0 h I (lv_sub hl [0, 1, 2, 3] rfl)
theorem bdX8_ask_0 : ∀ q ∈ ([(0, .iload_n 1, 1), (1, .invokestatic 262, 3), (4, .ifCond .eq 12, 3), (7, .iload_n 2, 1), (8, .iconst 0, 1), (9, .iconst 5, 1), (10, .invokestatic 79, 3), (13, .ifCond .ne 6, 3), (16, .ldc 98, 2), (18, .ireturn, 1), (19, .aload_n 0, 1), (20, .getfield 60, 3), (23, .iload_n 1, 1), (24, .iaload, 1), (25, .ifCond .ne 6, 3), (28, .ldc 185, 2), (30, .ireturn, 1), (31, .aload_n 0, 1), (32, .getfield 60, 3), (35, .iload_n 1, 1), (36, .iaload, 1), (37, .iconst 1, 1), (38, .if_icmp .ne 25, 3), (41, .aload_n 0, 1), (42, .getfield 63, 3), (45, .iload_n 1, 1), (46, .iaload, 1), (47, .iload_n 2, 1), (48, .invokestatic 137, 3), (51, .ifCond .eq 12, 3), (54, .aload_n 0, 1), (55, .getfield 66, 3), (58, .iload_n 1, 1), (59, .iaload, 1), (60, .goto 5, 3), (63, .ldc 140, 2), (65, .ireturn, 1)] : List (Nat × Jvm.ClassFile.Instr × Nat)), decode cX8_ask q.1 = .ok q.2 := chk_ok _ 0 _ rfl (by decide +kernel)
theorem dX8_ask_0 : decode cX8_ask 0 = .ok (.iload_n 1, 1) := bdX8_ask_0 (0, .iload_n 1, 1) (List.mem_of_getElem? (i := 0) rfl)
theorem dX8_ask_1 : decode cX8_ask 1 = .ok (.invokestatic 262, 3) := bdX8_ask_0 (1, .invokestatic 262, 3) (List.mem_of_getElem? (i := 1) rfl)
theorem dX8_ask_4 : decode cX8_ask 4 = .ok (.ifCond .eq 12, 3) := bdX8_ask_0 (4, .ifCond .eq 12, 3) (List.mem_of_getElem? (i := 2) rfl)
theorem dX8_ask_7 : decode cX8_ask 7 = .ok (.iload_n 2, 1) := bdX8_ask_0 (7, .iload_n 2, 1) (List.mem_of_getElem? (i := 3) rfl)
theorem dX8_ask_8 : decode cX8_ask 8 = .ok (.iconst 0, 1) := bdX8_ask_0 (8, .iconst 0, 1) (List.mem_of_getElem? (i := 4) rfl)
theorem dX8_ask_9 : decode cX8_ask 9 = .ok (.iconst 5, 1) := bdX8_ask_0 (9, .iconst 5, 1) (List.mem_of_getElem? (i := 5) rfl)
theorem dX8_ask_10 : decode cX8_ask 10 = .ok (.invokestatic 79, 3) := bdX8_ask_0 (10, .invokestatic 79, 3) (List.mem_of_getElem? (i := 6) rfl)
theorem dX8_ask_13 : decode cX8_ask 13 = .ok (.ifCond .ne 6, 3) := bdX8_ask_0 (13, .ifCond .ne 6, 3) (List.mem_of_getElem? (i := 7) rfl)
theorem dX8_ask_16 : decode cX8_ask 16 = .ok (.ldc 98, 2) := bdX8_ask_0 (16, .ldc 98, 2) (List.mem_of_getElem? (i := 8) rfl)
theorem dX8_ask_18 : decode cX8_ask 18 = .ok (.ireturn, 1) := bdX8_ask_0 (18, .ireturn, 1) (List.mem_of_getElem? (i := 9) rfl)
theorem dX8_ask_19 : decode cX8_ask 19 = .ok (.aload_n 0, 1) := bdX8_ask_0 (19, .aload_n 0, 1) (List.mem_of_getElem? (i := 10) rfl)
theorem dX8_ask_20 : decode cX8_ask 20 = .ok (.getfield 60, 3) := bdX8_ask_0 (20, .getfield 60, 3) (List.mem_of_getElem? (i := 11) rfl)
theorem dX8_ask_23 : decode cX8_ask 23 = .ok (.iload_n 1, 1) := bdX8_ask_0 (23, .iload_n 1, 1) (List.mem_of_getElem? (i := 12) rfl)
theorem dX8_ask_24 : decode cX8_ask 24 = .ok (.iaload, 1) := bdX8_ask_0 (24, .iaload, 1) (List.mem_of_getElem? (i := 13) rfl)
theorem dX8_ask_25 : decode cX8_ask 25 = .ok (.ifCond .ne 6, 3) := bdX8_ask_0 (25, .ifCond .ne 6, 3) (List.mem_of_getElem? (i := 14) rfl)
theorem dX8_ask_28 : decode cX8_ask 28 = .ok (.ldc 185, 2) := bdX8_ask_0 (28, .ldc 185, 2) (List.mem_of_getElem? (i := 15) rfl)
theorem dX8_ask_30 : decode cX8_ask 30 = .ok (.ireturn, 1) := bdX8_ask_0 (30, .ireturn, 1) (List.mem_of_getElem? (i := 16) rfl)
theorem dX8_ask_31 : decode cX8_ask 31 = .ok (.aload_n 0, 1) := bdX8_ask_0 (31, .aload_n 0, 1) (List.mem_of_getElem? (i := 17) rfl)
theorem dX8_ask_32 : decode cX8_ask 32 = .ok (.getfield 60, 3) := bdX8_ask_0 (32, .getfield 60, 3) (List.mem_of_getElem? (i := 18) rfl)
theorem dX8_ask_35 : decode cX8_ask 35 = .ok (.iload_n 1, 1) := bdX8_ask_0 (35, .iload_n 1, 1) (List.mem_of_getElem? (i := 19) rfl)
theorem dX8_ask_36 : decode cX8_ask 36 = .ok (.iaload, 1) := bdX8_ask_0 (36, .iaload, 1) (List.mem_of_getElem? (i := 20) rfl)
theorem dX8_ask_37 : decode cX8_ask 37 = .ok (.iconst 1, 1) := bdX8_ask_0 (37, .iconst 1, 1) (List.mem_of_getElem? (i := 21) rfl)
theorem dX8_ask_38 : decode cX8_ask 38 = .ok (.if_icmp .ne 25, 3) := bdX8_ask_0 (38, .if_icmp .ne 25, 3) (List.mem_of_getElem? (i := 22) rfl)
theorem dX8_ask_41 : decode cX8_ask 41 = .ok (.aload_n 0, 1) := bdX8_ask_0 (41, .aload_n 0, 1) (List.mem_of_getElem? (i := 23) rfl)
theorem dX8_ask_42 : decode cX8_ask 42 = .ok (.getfield 63, 3) := bdX8_ask_0 (42, .getfield 63, 3) (List.mem_of_getElem? (i := 24) rfl)
theorem dX8_ask_45 : decode cX8_ask 45 = .ok (.iload_n 1, 1) := bdX8_ask_0 (45, .iload_n 1, 1) (List.mem_of_getElem? (i := 25) rfl)
theorem dX8_ask_46 : decode cX8_ask 46 = .ok (.iaload, 1) := bdX8_ask_0 (46, .iaload, 1) (List.mem_of_getElem? (i := 26) rfl)
theorem dX8_ask_47 : decode cX8_ask 47 = .ok (.iload_n 2, 1) := bdX8_ask_0 (47, .iload_n 2, 1) (List.mem_of_getElem? (i := 27) rfl)
theorem dX8_ask_48 : decode cX8_ask 48 = .ok (.invokestatic 137, 3) := bdX8_ask_0 (48, .invokestatic 137, 3) (List.mem_of_getElem? (i := 28) rfl)
theorem dX8_ask_51 : decode cX8_ask 51 = .ok (.ifCond .eq 12, 3) := bdX8_ask_0 (51, .ifCond .eq 12, 3) (List.mem_of_getElem? (i := 29) rfl)
theorem dX8_ask_54 : decode cX8_ask 54 = .ok (.aload_n 0, 1) := bdX8_ask_0 (54, .aload_n 0, 1) (List.mem_of_getElem? (i := 30) rfl)
theorem dX8_ask_55 : decode cX8_ask 55 = .ok (.getfield 66, 3) := bdX8_ask_0 (55, .getfield 66, 3) (List.mem_of_getElem? (i := 31) rfl)
theorem dX8_ask_58 : decode cX8_ask 58 = .ok (.iload_n 1, 1) := bdX8_ask_0 (58, .iload_n 1, 1) (List.mem_of_getElem? (i := 32) rfl)
theorem dX8_ask_59 : decode cX8_ask 59 = .ok (.iaload, 1) := bdX8_ask_0 (59, .iaload, 1) (List.mem_of_getElem? (i := 33) rfl)
theorem dX8_ask_60 : decode cX8_ask 60 = .ok (.goto 5, 3) := bdX8_ask_0 (60, .goto 5, 3) (List.mem_of_getElem? (i := 34) rfl)
theorem dX8_ask_63 : decode cX8_ask 63 = .ok (.ldc 140, 2) := bdX8_ask_0 (63, .ldc 140, 2) (List.mem_of_getElem? (i := 35) rfl)
theorem dX8_ask_65 : decode cX8_ask 65 = .ok (.ireturn, 1) := bdX8_ask_0 (65, .ireturn, 1) (List.mem_of_getElem? (i := 36) rfl)
def BX8_ask_63 (ln : Nat → Nat) (post : Int32 → HC → Prop) (S : HC)  : Prop := post (-1000000012 : Int32) S
def BX8_ask_16 (ln : Nat → Nat) (post : Int32 → HC → Prop) (S : HC)  : Prop := post (-1000000001 : Int32) S
def wpX8_ask (ln : Nat → Nat) (S : HC) (a0 : Nat) (a1 : Int32) (a2 : Int32) (post : Int32 → HC → Prop) : Prop := wpX8_isSlot ln S a1 fun z1 S => if z1 = 0 then (BX8_ask_16 ln post S) else (wpX8_in ln S a2 (0 : Int32) (5 : Int32) fun z2 S => if z2 = 0 then (BX8_ask_16 ln post S) else (dn_ (hR S a0 27) fun b3 => al_ (ln b3) a1 (hI S b3) fun z4 => if z4 = 0 then (post (-1000000011 : Int32) S) else (dn_ (hR S a0 27) fun b5 => al_ (ln b5) a1 (hI S b5) fun z6 => if z6 = (1 : Int32) then (dn_ (hR S a0 28) fun b7 => al_ (ln b7) a1 (hI S b7) fun z8 => wpX8_isUnder ln S z8 a2 fun z9 S => if z9 = 0 then (BX8_ask_63 ln post S) else (dn_ (hR S a0 29) fun b10 => al_ (ln b10) a1 (hI S b10) fun z11 => post z11 S)) else (BX8_ask_63 ln post S))))
abbrev rmX8_ask : Room := { frames := 2, cells := 0, slots := 0, locals := 42 }
set_option maxHeartbeats 4000000 in
set_option maxRecDepth 100000 in
theorem ctX8_ask {l : Launch} {g : GX} {N : Nat} {ln : Nat → Nat} {S : HC} {a0 : Nat} {a1 : Int32} {a2 : Int32} {post : Int32 → HC → Prop} (hr_a0 : a0 < N) (hk_a0 : kd a0 = 8) (h : wpX8_ask ln S a0 a1 a2 post) : Met l yX8_ask (Cond.code yX8_ask prog_10_method_81_code 3 (Option.some Jvm.ClassFile.FieldType.int) :: gtbl) rmX8_ask (va_Pc [.ref (gz g + a0), .int a1, .int a2] (AtP g N ln S)) (QI g N ln post) 0 0 (gF g) := by
  refine m_of (by decide) (Nat.le_of_ble_eq_true rfl) ?_
  intro p e s m below meth c ls F hr I hl
  have hl : lv_has ls 3 [(0, .ref (gz g + a0)), (1, .int a1), (2, .int a2)] := hl
  unfold wpX8_ask at h
  have hj_63 : ∀ (S : HC) (H : Heap) (locs : List Loc) (ls : Array Slot), BX8_ask_63 ln post S  → Inv g N ln S s H locs → lv_has ls 3 [] → W p l e rmX8_ask s m ([.ref (gz g + a0), .int a1, .int a2] : List Value).toArray below meth c H locs 0 0 (MQ below (QI g N ln post) ([.ref (gz g + a0), .int a1, .int a2] : List Value).toArray s 0 0 (gF g)) (F0 m 63 ls []) := by
    intro S H locs ls h I hl
    unfold BX8_ask_63 at h
    refine lv_ldc F.1 F.2.1 F.2.2.2.1 (F.2.2.2.2 _ tw_1127) dX8_ask_63 ?_
    exact r_ireturn F I ⟨hr.1, hr.2.1, trivial⟩ h dX8_ask_65
  have hj_16 : ∀ (S : HC) (H : Heap) (locs : List Loc) (ls : Array Slot), BX8_ask_16 ln post S  → Inv g N ln S s H locs → lv_has ls 3 [] → W p l e rmX8_ask s m ([.ref (gz g + a0), .int a1, .int a2] : List Value).toArray below meth c H locs 0 0 (MQ below (QI g N ln post) ([.ref (gz g + a0), .int a1, .int a2] : List Value).toArray s 0 0 (gF g)) (F0 m 16 ls []) := by
    intro S H locs ls h I hl
    unfold BX8_ask_16 at h
    refine lv_ldc F.1 F.2.1 F.2.2.2.1 (F.2.2.2.2 _ tw_1064) dX8_ask_16 ?_
    exact r_ireturn F I ⟨hr.1, hr.2.1, trivial⟩ h dX8_ask_18
  refine lv_iload_n F.1 F.2.1 dX8_ask_0 rfl (lv_at hl 1 rfl) ?_
  refine g_I I (run_S (As := [.int a1]) (rest := []) F I kX8_262 (ctX8_isSlot h) ⟨rfl, rfl⟩ ⟨Nat.le_of_ble_eq_true rfl, Nat.le_of_ble_eq_true rfl⟩ rfl hl.1 rfl (Nat.le_of_ble_eq_true rfl) ⟨Nat.le_of_ble_eq_true rfl, Nat.le_of_ble_eq_true rfl⟩ dX8_ask_1) (fun z1 S H locs I h => ?_)
  refine r_if_eq (tgt := 16) F dX8_ask_4 (by decide) h (fun h => ?_) (fun h => ?_)
  · exact hj_16 S _ _ _   h I (lv_sub hl [] rfl)
  · refine lv_iload_n F.1 F.2.1 dX8_ask_7 rfl (lv_at hl 2 rfl) ?_
    refine lv_iconst (v := 0) F.1 F.2.1 dX8_ask_8 (by decide) ?_
    refine lv_iconst (v := 5) F.1 F.2.1 dX8_ask_9 (by decide) ?_
    refine g_I I (run_S (As := [.int a2, .int (0 : Int32), .int (5 : Int32)]) (rest := []) F I kX8_79 (ctX8_in h) ⟨rfl, rfl⟩ ⟨Nat.le_of_ble_eq_true rfl, Nat.le_of_ble_eq_true rfl⟩ rfl hl.1 rfl (Nat.le_of_ble_eq_true rfl) ⟨Nat.le_of_ble_eq_true rfl, Nat.le_of_ble_eq_true rfl⟩ dX8_ask_10) (fun z2 S H locs I h => ?_)
    refine r_if_ne (tgt := 19) F dX8_ask_13 (by decide) h (fun h => ?_) (fun h => ?_)
    · refine lv_aload_n F.1 F.2.1 dX8_ask_19 rfl (lv_at hl 0 rfl) ?_
      refine r_getN F I hr_a0 hk_a0 fX8_60 (f := 9) rfl (by decide) dX8_ask_20 h (fun b3 hr_b3 hk_b3 h => ?_)
      refine lv_iload_n F.1 F.2.1 dX8_ask_23 rfl (lv_at hl 1 rfl) ?_
      refine r_ald F I hr_b3 hk_b3 dX8_ask_24 h (fun z4 h => ?_)
      refine r_if_ne (tgt := 31) F dX8_ask_25 (by decide) h (fun h => ?_) (fun h => ?_)
      · refine lv_aload_n F.1 F.2.1 dX8_ask_31 rfl (lv_at hl 0 rfl) ?_
        refine r_getN F I hr_a0 hk_a0 fX8_60 (f := 9) rfl (by decide) dX8_ask_32 h (fun b5 hr_b5 hk_b5 h => ?_)
        refine lv_iload_n F.1 F.2.1 dX8_ask_35 rfl (lv_at hl 1 rfl) ?_
        refine r_ald F I hr_b5 hk_b5 dX8_ask_36 h (fun z6 h => ?_)
        refine lv_iconst (v := 1) F.1 F.2.1 dX8_ask_37 (by decide) ?_
        refine r_icmp_ne (tgt := 63) F dX8_ask_38 (by decide) h (fun h => ?_) (fun h => ?_)
        · exact hj_63 S _ _ _   h I (lv_sub hl [] rfl)
        · refine lv_aload_n F.1 F.2.1 dX8_ask_41 rfl (lv_at hl 0 rfl) ?_
          refine r_getN F I hr_a0 hk_a0 fX8_63 (f := 9) rfl (by decide) dX8_ask_42 h (fun b7 hr_b7 hk_b7 h => ?_)
          refine lv_iload_n F.1 F.2.1 dX8_ask_45 rfl (lv_at hl 1 rfl) ?_
          refine r_ald F I hr_b7 hk_b7 dX8_ask_46 h (fun z8 h => ?_)
          refine lv_iload_n F.1 F.2.1 dX8_ask_47 rfl (lv_at hl 2 rfl) ?_
          refine g_I I (run_S (As := [.int z8, .int a2]) (rest := []) F I kX8_137 (ctX8_isUnder h) ⟨rfl, rfl⟩ ⟨Nat.le_of_ble_eq_true rfl, Nat.le_of_ble_eq_true rfl⟩ rfl hl.1 rfl (Nat.le_of_ble_eq_true rfl) ⟨Nat.le_of_ble_eq_true rfl, Nat.le_of_ble_eq_true rfl⟩ dX8_ask_48) (fun z9 S H locs I h => ?_)
          refine r_if_eq (tgt := 63) F dX8_ask_51 (by decide) h (fun h => ?_) (fun h => ?_)
          · exact hj_63 S _ _ _   h I (lv_sub hl [] rfl)
          · refine lv_aload_n F.1 F.2.1 dX8_ask_54 rfl (lv_at hl 0 rfl) ?_
            refine r_getN F I hr_a0 hk_a0 fX8_66 (f := 9) rfl (by decide) dX8_ask_55 h (fun b10 hr_b10 hk_b10 h => ?_)
            refine lv_iload_n F.1 F.2.1 dX8_ask_58 rfl (lv_at hl 1 rfl) ?_
            refine r_ald F I hr_b10 hk_b10 dX8_ask_59 h (fun z11 h => ?_)
            refine lv_goto (tgt := 65) F.1 F.2.1 dX8_ask_60 (by decide) ?_
            exact r_ireturn F I ⟨hr.1, hr.2.1, trivial⟩ h dX8_ask_65
      · refine lv_ldc F.1 F.2.1 F.2.2.2.1 (F.2.2.2.2 _ tw_1248) dX8_ask_28 ?_
        exact r_ireturn F I ⟨hr.1, hr.2.1, trivial⟩ h dX8_ask_30
    · exact hj_16 S _ _ _   h I (lv_sub hl [] rfl)
theorem bdX8_item_0 : ∀ q ∈ ([(0, .iload_n 1, 1), (1, .invokestatic 262, 3), (4, .ifCond .ne 6, 3), (7, .ldc 98, 2), (9, .ireturn, 1), (10, .aload_n 0, 1), (11, .getfield 60, 3), (14, .iload_n 1, 1), (15, .iaload, 1), (16, .ifCond .ne 6, 3), (19, .ldc 185, 2), (21, .ireturn, 1), (22, .aload_n 0, 1), (23, .getfield 60, 3), (26, .iload_n 1, 1), (27, .iaload, 1), (28, .iconst 2, 1), (29, .if_icmp .eq 6, 3), (32, .ldc 140, 2), (34, .ireturn, 1), (35, .iload_n 2, 1), (36, .iconst 0, 1), (37, .aload_n 0, 1), (38, .getfield 63, 3), (41, .iload_n 1, 1), (42, .iaload, 1), (43, .iconst 1, 1), (44, .isub, 1), (45, .invokestatic 79, 3), (48, .ifCond .ne 7, 3), (51, .ldc_w 259, 3), (54, .ireturn, 1), (55, .aload_n 0, 1), (56, .getfield 69, 3), (59, .bipush 24, 2), (61, .iload_n 1, 1), (62, .imul, 1), (63, .iload_n 2, 1), (64, .iadd, 1), (65, .iaload, 1)] : List (Nat × Jvm.ClassFile.Instr × Nat)), decode cX8_item q.1 = .ok q.2 := chk_ok _ 0 _ rfl (by decide +kernel)
theorem dX8_item_0 : decode cX8_item 0 = .ok (.iload_n 1, 1) := bdX8_item_0 (0, .iload_n 1, 1) (List.mem_of_getElem? (i := 0) rfl)
theorem dX8_item_1 : decode cX8_item 1 = .ok (.invokestatic 262, 3) := bdX8_item_0 (1, .invokestatic 262, 3) (List.mem_of_getElem? (i := 1) rfl)
theorem dX8_item_4 : decode cX8_item 4 = .ok (.ifCond .ne 6, 3) := bdX8_item_0 (4, .ifCond .ne 6, 3) (List.mem_of_getElem? (i := 2) rfl)
theorem dX8_item_7 : decode cX8_item 7 = .ok (.ldc 98, 2) := bdX8_item_0 (7, .ldc 98, 2) (List.mem_of_getElem? (i := 3) rfl)
theorem dX8_item_9 : decode cX8_item 9 = .ok (.ireturn, 1) := bdX8_item_0 (9, .ireturn, 1) (List.mem_of_getElem? (i := 4) rfl)
theorem dX8_item_10 : decode cX8_item 10 = .ok (.aload_n 0, 1) := bdX8_item_0 (10, .aload_n 0, 1) (List.mem_of_getElem? (i := 5) rfl)
theorem dX8_item_11 : decode cX8_item 11 = .ok (.getfield 60, 3) := bdX8_item_0 (11, .getfield 60, 3) (List.mem_of_getElem? (i := 6) rfl)
theorem dX8_item_14 : decode cX8_item 14 = .ok (.iload_n 1, 1) := bdX8_item_0 (14, .iload_n 1, 1) (List.mem_of_getElem? (i := 7) rfl)
theorem dX8_item_15 : decode cX8_item 15 = .ok (.iaload, 1) := bdX8_item_0 (15, .iaload, 1) (List.mem_of_getElem? (i := 8) rfl)
theorem dX8_item_16 : decode cX8_item 16 = .ok (.ifCond .ne 6, 3) := bdX8_item_0 (16, .ifCond .ne 6, 3) (List.mem_of_getElem? (i := 9) rfl)
theorem dX8_item_19 : decode cX8_item 19 = .ok (.ldc 185, 2) := bdX8_item_0 (19, .ldc 185, 2) (List.mem_of_getElem? (i := 10) rfl)
theorem dX8_item_21 : decode cX8_item 21 = .ok (.ireturn, 1) := bdX8_item_0 (21, .ireturn, 1) (List.mem_of_getElem? (i := 11) rfl)
theorem dX8_item_22 : decode cX8_item 22 = .ok (.aload_n 0, 1) := bdX8_item_0 (22, .aload_n 0, 1) (List.mem_of_getElem? (i := 12) rfl)
theorem dX8_item_23 : decode cX8_item 23 = .ok (.getfield 60, 3) := bdX8_item_0 (23, .getfield 60, 3) (List.mem_of_getElem? (i := 13) rfl)
theorem dX8_item_26 : decode cX8_item 26 = .ok (.iload_n 1, 1) := bdX8_item_0 (26, .iload_n 1, 1) (List.mem_of_getElem? (i := 14) rfl)
theorem dX8_item_27 : decode cX8_item 27 = .ok (.iaload, 1) := bdX8_item_0 (27, .iaload, 1) (List.mem_of_getElem? (i := 15) rfl)
theorem dX8_item_28 : decode cX8_item 28 = .ok (.iconst 2, 1) := bdX8_item_0 (28, .iconst 2, 1) (List.mem_of_getElem? (i := 16) rfl)
theorem dX8_item_29 : decode cX8_item 29 = .ok (.if_icmp .eq 6, 3) := bdX8_item_0 (29, .if_icmp .eq 6, 3) (List.mem_of_getElem? (i := 17) rfl)
theorem dX8_item_32 : decode cX8_item 32 = .ok (.ldc 140, 2) := bdX8_item_0 (32, .ldc 140, 2) (List.mem_of_getElem? (i := 18) rfl)
theorem dX8_item_34 : decode cX8_item 34 = .ok (.ireturn, 1) := bdX8_item_0 (34, .ireturn, 1) (List.mem_of_getElem? (i := 19) rfl)
theorem dX8_item_35 : decode cX8_item 35 = .ok (.iload_n 2, 1) := bdX8_item_0 (35, .iload_n 2, 1) (List.mem_of_getElem? (i := 20) rfl)
theorem dX8_item_36 : decode cX8_item 36 = .ok (.iconst 0, 1) := bdX8_item_0 (36, .iconst 0, 1) (List.mem_of_getElem? (i := 21) rfl)
theorem dX8_item_37 : decode cX8_item 37 = .ok (.aload_n 0, 1) := bdX8_item_0 (37, .aload_n 0, 1) (List.mem_of_getElem? (i := 22) rfl)
theorem dX8_item_38 : decode cX8_item 38 = .ok (.getfield 63, 3) := bdX8_item_0 (38, .getfield 63, 3) (List.mem_of_getElem? (i := 23) rfl)
theorem dX8_item_41 : decode cX8_item 41 = .ok (.iload_n 1, 1) := bdX8_item_0 (41, .iload_n 1, 1) (List.mem_of_getElem? (i := 24) rfl)
theorem dX8_item_42 : decode cX8_item 42 = .ok (.iaload, 1) := bdX8_item_0 (42, .iaload, 1) (List.mem_of_getElem? (i := 25) rfl)
theorem dX8_item_43 : decode cX8_item 43 = .ok (.iconst 1, 1) := bdX8_item_0 (43, .iconst 1, 1) (List.mem_of_getElem? (i := 26) rfl)
theorem dX8_item_44 : decode cX8_item 44 = .ok (.isub, 1) := bdX8_item_0 (44, .isub, 1) (List.mem_of_getElem? (i := 27) rfl)
theorem dX8_item_45 : decode cX8_item 45 = .ok (.invokestatic 79, 3) := bdX8_item_0 (45, .invokestatic 79, 3) (List.mem_of_getElem? (i := 28) rfl)
theorem dX8_item_48 : decode cX8_item 48 = .ok (.ifCond .ne 7, 3) := bdX8_item_0 (48, .ifCond .ne 7, 3) (List.mem_of_getElem? (i := 29) rfl)
theorem dX8_item_51 : decode cX8_item 51 = .ok (.ldc_w 259, 3) := bdX8_item_0 (51, .ldc_w 259, 3) (List.mem_of_getElem? (i := 30) rfl)
theorem dX8_item_54 : decode cX8_item 54 = .ok (.ireturn, 1) := bdX8_item_0 (54, .ireturn, 1) (List.mem_of_getElem? (i := 31) rfl)
theorem dX8_item_55 : decode cX8_item 55 = .ok (.aload_n 0, 1) := bdX8_item_0 (55, .aload_n 0, 1) (List.mem_of_getElem? (i := 32) rfl)
theorem dX8_item_56 : decode cX8_item 56 = .ok (.getfield 69, 3) := bdX8_item_0 (56, .getfield 69, 3) (List.mem_of_getElem? (i := 33) rfl)
theorem dX8_item_59 : decode cX8_item 59 = .ok (.bipush 24, 2) := bdX8_item_0 (59, .bipush 24, 2) (List.mem_of_getElem? (i := 34) rfl)
theorem dX8_item_61 : decode cX8_item 61 = .ok (.iload_n 1, 1) := bdX8_item_0 (61, .iload_n 1, 1) (List.mem_of_getElem? (i := 35) rfl)
theorem dX8_item_62 : decode cX8_item 62 = .ok (.imul, 1) := bdX8_item_0 (62, .imul, 1) (List.mem_of_getElem? (i := 36) rfl)
theorem dX8_item_63 : decode cX8_item 63 = .ok (.iload_n 2, 1) := bdX8_item_0 (63, .iload_n 2, 1) (List.mem_of_getElem? (i := 37) rfl)
theorem dX8_item_64 : decode cX8_item 64 = .ok (.iadd, 1) := bdX8_item_0 (64, .iadd, 1) (List.mem_of_getElem? (i := 38) rfl)
theorem dX8_item_65 : decode cX8_item 65 = .ok (.iaload, 1) := bdX8_item_0 (65, .iaload, 1) (List.mem_of_getElem? (i := 39) rfl)
theorem bdX8_item_66 : ∀ q ∈ ([(66, .istore_n 3, 1), (67, .iload_n 3, 1), (68, .ldc 78, 2), (70, .if_icmp .ne 8, 3), (73, .ldc 140, 2), (75, .goto 4, 3), (78, .iload_n 3, 1), (79, .ireturn, 1)] : List (Nat × Jvm.ClassFile.Instr × Nat)), decode cX8_item q.1 = .ok q.2 := chk_ok _ 66 _ rfl (by decide +kernel)
theorem dX8_item_66 : decode cX8_item 66 = .ok (.istore_n 3, 1) := bdX8_item_66 (66, .istore_n 3, 1) (List.mem_of_getElem? (i := 0) rfl)
theorem dX8_item_67 : decode cX8_item 67 = .ok (.iload_n 3, 1) := bdX8_item_66 (67, .iload_n 3, 1) (List.mem_of_getElem? (i := 1) rfl)
theorem dX8_item_68 : decode cX8_item 68 = .ok (.ldc 78, 2) := bdX8_item_66 (68, .ldc 78, 2) (List.mem_of_getElem? (i := 2) rfl)
theorem dX8_item_70 : decode cX8_item 70 = .ok (.if_icmp .ne 8, 3) := bdX8_item_66 (70, .if_icmp .ne 8, 3) (List.mem_of_getElem? (i := 3) rfl)
theorem dX8_item_73 : decode cX8_item 73 = .ok (.ldc 140, 2) := bdX8_item_66 (73, .ldc 140, 2) (List.mem_of_getElem? (i := 4) rfl)
theorem dX8_item_75 : decode cX8_item 75 = .ok (.goto 4, 3) := bdX8_item_66 (75, .goto 4, 3) (List.mem_of_getElem? (i := 5) rfl)
theorem dX8_item_78 : decode cX8_item 78 = .ok (.iload_n 3, 1) := bdX8_item_66 (78, .iload_n 3, 1) (List.mem_of_getElem? (i := 6) rfl)
theorem dX8_item_79 : decode cX8_item 79 = .ok (.ireturn, 1) := bdX8_item_66 (79, .ireturn, 1) (List.mem_of_getElem? (i := 7) rfl)
def wpX8_item (ln : Nat → Nat) (S : HC) (a0 : Nat) (a1 : Int32) (a2 : Int32) (post : Int32 → HC → Prop) : Prop := wpX8_isSlot ln S a1 fun z1 S => if z1 = 0 then (post (-1000000001 : Int32) S) else (dn_ (hR S a0 27) fun b2 => al_ (ln b2) a1 (hI S b2) fun z3 => if z3 = 0 then (post (-1000000011 : Int32) S) else (dn_ (hR S a0 27) fun b4 => al_ (ln b4) a1 (hI S b4) fun z5 => if z5 = (2 : Int32) then (dn_ (hR S a0 28) fun b6 => al_ (ln b6) a1 (hI S b6) fun z7 => lt_ (z7 - (1 : Int32)) fun z8 => wpX8_in ln S a2 (0 : Int32) z8 fun z9 S => if z9 = 0 then (post (-1000000013 : Int32) S) else (dn_ (hR S a0 30) fun b10 => lt_ ((24 : Int32) * a1) fun z11 => lt_ (z11 + a2) fun z12 => al_ (ln b10) z12 (hI S b10) fun z13 => if z13 = (-1000000005 : Int32) then (post (-1000000012 : Int32) S) else (post z13 S))) else (post (-1000000012 : Int32) S)))
abbrev rmX8_item : Room := { frames := 2, cells := 0, slots := 0, locals := 42 }
set_option maxHeartbeats 4000000 in
set_option maxRecDepth 100000 in
theorem ctX8_item {l : Launch} {g : GX} {N : Nat} {ln : Nat → Nat} {S : HC} {a0 : Nat} {a1 : Int32} {a2 : Int32} {post : Int32 → HC → Prop} (hr_a0 : a0 < N) (hk_a0 : kd a0 = 8) (h : wpX8_item ln S a0 a1 a2 post) : Met l yX8_item (Cond.code yX8_item prog_10_method_82_code 4 (Option.some Jvm.ClassFile.FieldType.int) :: gtbl) rmX8_item (va_Pc [.ref (gz g + a0), .int a1, .int a2] (AtP g N ln S)) (QI g N ln post) 0 0 (gF g) := by
  refine m_of (by decide) (Nat.le_of_ble_eq_true rfl) ?_
  intro p e s m below meth c ls F hr I hl
  have hl : lv_has ls 4 [(0, .ref (gz g + a0)), (1, .int a1), (2, .int a2)] := hl
  unfold wpX8_item at h
  refine lv_iload_n F.1 F.2.1 dX8_item_0 rfl (lv_at hl 1 rfl) ?_
  refine g_I I (run_S (As := [.int a1]) (rest := []) F I kX8_262 (ctX8_isSlot h) ⟨rfl, rfl⟩ ⟨Nat.le_of_ble_eq_true rfl, Nat.le_of_ble_eq_true rfl⟩ rfl hl.1 rfl (Nat.le_of_ble_eq_true rfl) ⟨Nat.le_of_ble_eq_true rfl, Nat.le_of_ble_eq_true rfl⟩ dX8_item_1) (fun z1 S H locs I h => ?_)
  refine r_if_ne (tgt := 10) F dX8_item_4 (by decide) h (fun h => ?_) (fun h => ?_)
  · refine lv_aload_n F.1 F.2.1 dX8_item_10 rfl (lv_at hl 0 rfl) ?_
    refine r_getN F I hr_a0 hk_a0 fX8_60 (f := 9) rfl (by decide) dX8_item_11 h (fun b2 hr_b2 hk_b2 h => ?_)
    refine lv_iload_n F.1 F.2.1 dX8_item_14 rfl (lv_at hl 1 rfl) ?_
    refine r_ald F I hr_b2 hk_b2 dX8_item_15 h (fun z3 h => ?_)
    refine r_if_ne (tgt := 22) F dX8_item_16 (by decide) h (fun h => ?_) (fun h => ?_)
    · refine lv_aload_n F.1 F.2.1 dX8_item_22 rfl (lv_at hl 0 rfl) ?_
      refine r_getN F I hr_a0 hk_a0 fX8_60 (f := 9) rfl (by decide) dX8_item_23 h (fun b4 hr_b4 hk_b4 h => ?_)
      refine lv_iload_n F.1 F.2.1 dX8_item_26 rfl (lv_at hl 1 rfl) ?_
      refine r_ald F I hr_b4 hk_b4 dX8_item_27 h (fun z5 h => ?_)
      refine lv_iconst (v := 2) F.1 F.2.1 dX8_item_28 (by decide) ?_
      refine r_icmp_eq (tgt := 35) F dX8_item_29 (by decide) h (fun h => ?_) (fun h => ?_)
      · refine lv_iload_n F.1 F.2.1 dX8_item_35 rfl (lv_at hl 2 rfl) ?_
        refine lv_iconst (v := 0) F.1 F.2.1 dX8_item_36 (by decide) ?_
        refine lv_aload_n F.1 F.2.1 dX8_item_37 rfl (lv_at hl 0 rfl) ?_
        refine r_getN F I hr_a0 hk_a0 fX8_63 (f := 9) rfl (by decide) dX8_item_38 h (fun b6 hr_b6 hk_b6 h => ?_)
        refine lv_iload_n F.1 F.2.1 dX8_item_41 rfl (lv_at hl 1 rfl) ?_
        refine r_ald F I hr_b6 hk_b6 dX8_item_42 h (fun z7 h => ?_)
        refine lv_iconst (v := 1) F.1 F.2.1 dX8_item_43 (by decide) ?_
        refine r_isub F dX8_item_44 h (fun z8 h => ?_)
        refine g_I I (run_S (As := [.int a2, .int (0 : Int32), .int z8]) (rest := []) F I kX8_79 (ctX8_in h) ⟨rfl, rfl⟩ ⟨Nat.le_of_ble_eq_true rfl, Nat.le_of_ble_eq_true rfl⟩ rfl hl.1 rfl (Nat.le_of_ble_eq_true rfl) ⟨Nat.le_of_ble_eq_true rfl, Nat.le_of_ble_eq_true rfl⟩ dX8_item_45) (fun z9 S H locs I h => ?_)
        refine r_if_ne (tgt := 55) F dX8_item_48 (by decide) h (fun h => ?_) (fun h => ?_)
        · refine lv_aload_n F.1 F.2.1 dX8_item_55 rfl (lv_at hl 0 rfl) ?_
          refine r_getN F I hr_a0 hk_a0 fX8_69 (f := 9) rfl (by decide) dX8_item_56 h (fun b10 hr_b10 hk_b10 h => ?_)
          refine lv_bipush (v := 24) F.1 F.2.1 dX8_item_59 (by decide) ?_
          refine lv_iload_n F.1 F.2.1 dX8_item_61 rfl (lv_at hl 1 rfl) ?_
          refine r_imul F dX8_item_62 h (fun z11 h => ?_)
          refine lv_iload_n F.1 F.2.1 dX8_item_63 rfl (lv_at hl 2 rfl) ?_
          refine r_iadd F dX8_item_64 h (fun z12 h => ?_)
          refine r_ald F I hr_b10 hk_b10 dX8_item_65 h (fun z13 h => ?_)
          refine lv_istore_n (lv' := [(3, .int z13), (0, .ref (gz g + a0)), (1, .int a1), (2, .int a2)]) F.1 F.2.1 dX8_item_66 rfl hl (by decide) rfl (fun ls hl => ?_)
          refine lv_iload_n F.1 F.2.1 dX8_item_67 rfl (lv_at hl 0 rfl) ?_
          refine lv_ldc F.1 F.2.1 F.2.2.2.1 (F.2.2.2.2 _ tw_1208) dX8_item_68 ?_
          refine r_icmp_ne (tgt := 78) F dX8_item_70 (by decide) h (fun h => ?_) (fun h => ?_)
          · refine lv_iload_n F.1 F.2.1 dX8_item_78 rfl (lv_at hl 0 rfl) ?_
            exact r_ireturn F I ⟨hr.1, hr.2.1, trivial⟩ h dX8_item_79
          · refine lv_ldc F.1 F.2.1 F.2.2.2.1 (F.2.2.2.2 _ tw_1127) dX8_item_73 ?_
            refine lv_goto (tgt := 79) F.1 F.2.1 dX8_item_75 (by decide) ?_
            exact r_ireturn F I ⟨hr.1, hr.2.1, trivial⟩ h dX8_item_79
        · refine lv_ldcw F.1 F.2.1 F.2.2.2.1 (F.2.2.2.2 _ tw_1333) dX8_item_51 ?_
          exact r_ireturn F I ⟨hr.1, hr.2.1, trivial⟩ h dX8_item_54
      · refine lv_ldc F.1 F.2.1 F.2.2.2.1 (F.2.2.2.2 _ tw_1127) dX8_item_32 ?_
        exact r_ireturn F I ⟨hr.1, hr.2.1, trivial⟩ h dX8_item_34
    · refine lv_ldc F.1 F.2.1 F.2.2.2.1 (F.2.2.2.2 _ tw_1248) dX8_item_19 ?_
      exact r_ireturn F I ⟨hr.1, hr.2.1, trivial⟩ h dX8_item_21
  · refine lv_ldc F.1 F.2.1 F.2.2.2.1 (F.2.2.2.2 _ tw_1064) dX8_item_7 ?_
    exact r_ireturn F I ⟨hr.1, hr.2.1, trivial⟩ h dX8_item_9
theorem bdX8_rest_0 : ∀ q ∈ ([(0, .iload_n 1, 1), (1, .invokestatic 262, 3), (4, .ifCond .ne 6, 3), (7, .ldc 98, 2), (9, .ireturn, 1), (10, .aload_n 0, 1), (11, .getfield 60, 3), (14, .iload_n 1, 1), (15, .iaload, 1), (16, .ifCond .ne 6, 3), (19, .ldc 185, 2), (21, .ireturn, 1), (22, .aload_n 0, 1), (23, .getfield 60, 3), (26, .iload_n 1, 1), (27, .iaload, 1), (28, .iconst 3, 1), (29, .if_icmp .eq 6, 3), (32, .ldc 140, 2), (34, .ireturn, 1), (35, .iload_n 2, 1), (36, .ifCond .ne 9, 3), (39, .ldc_w 265, 3), (42, .goto 20, 3), (45, .iload_n 2, 1), (46, .iconst (-1), 1), (47, .if_icmp .ne 7, 3), (50, .iconst 0, 1), (51, .goto 11, 3), (54, .aload_n 0, 1), (55, .getfield 63, 3), (58, .iload_n 1, 1), (59, .iaload, 1), (60, .iload_n 2, 1), (61, .irem, 1), (62, .ireturn, 1)] : List (Nat × Jvm.ClassFile.Instr × Nat)), decode cX8_rest q.1 = .ok q.2 := chk_ok _ 0 _ rfl (by decide +kernel)
theorem dX8_rest_0 : decode cX8_rest 0 = .ok (.iload_n 1, 1) := bdX8_rest_0 (0, .iload_n 1, 1) (List.mem_of_getElem? (i := 0) rfl)
theorem dX8_rest_1 : decode cX8_rest 1 = .ok (.invokestatic 262, 3) := bdX8_rest_0 (1, .invokestatic 262, 3) (List.mem_of_getElem? (i := 1) rfl)
theorem dX8_rest_4 : decode cX8_rest 4 = .ok (.ifCond .ne 6, 3) := bdX8_rest_0 (4, .ifCond .ne 6, 3) (List.mem_of_getElem? (i := 2) rfl)
theorem dX8_rest_7 : decode cX8_rest 7 = .ok (.ldc 98, 2) := bdX8_rest_0 (7, .ldc 98, 2) (List.mem_of_getElem? (i := 3) rfl)
theorem dX8_rest_9 : decode cX8_rest 9 = .ok (.ireturn, 1) := bdX8_rest_0 (9, .ireturn, 1) (List.mem_of_getElem? (i := 4) rfl)
theorem dX8_rest_10 : decode cX8_rest 10 = .ok (.aload_n 0, 1) := bdX8_rest_0 (10, .aload_n 0, 1) (List.mem_of_getElem? (i := 5) rfl)
theorem dX8_rest_11 : decode cX8_rest 11 = .ok (.getfield 60, 3) := bdX8_rest_0 (11, .getfield 60, 3) (List.mem_of_getElem? (i := 6) rfl)
theorem dX8_rest_14 : decode cX8_rest 14 = .ok (.iload_n 1, 1) := bdX8_rest_0 (14, .iload_n 1, 1) (List.mem_of_getElem? (i := 7) rfl)
theorem dX8_rest_15 : decode cX8_rest 15 = .ok (.iaload, 1) := bdX8_rest_0 (15, .iaload, 1) (List.mem_of_getElem? (i := 8) rfl)
theorem dX8_rest_16 : decode cX8_rest 16 = .ok (.ifCond .ne 6, 3) := bdX8_rest_0 (16, .ifCond .ne 6, 3) (List.mem_of_getElem? (i := 9) rfl)
theorem dX8_rest_19 : decode cX8_rest 19 = .ok (.ldc 185, 2) := bdX8_rest_0 (19, .ldc 185, 2) (List.mem_of_getElem? (i := 10) rfl)
theorem dX8_rest_21 : decode cX8_rest 21 = .ok (.ireturn, 1) := bdX8_rest_0 (21, .ireturn, 1) (List.mem_of_getElem? (i := 11) rfl)
theorem dX8_rest_22 : decode cX8_rest 22 = .ok (.aload_n 0, 1) := bdX8_rest_0 (22, .aload_n 0, 1) (List.mem_of_getElem? (i := 12) rfl)
theorem dX8_rest_23 : decode cX8_rest 23 = .ok (.getfield 60, 3) := bdX8_rest_0 (23, .getfield 60, 3) (List.mem_of_getElem? (i := 13) rfl)
theorem dX8_rest_26 : decode cX8_rest 26 = .ok (.iload_n 1, 1) := bdX8_rest_0 (26, .iload_n 1, 1) (List.mem_of_getElem? (i := 14) rfl)
theorem dX8_rest_27 : decode cX8_rest 27 = .ok (.iaload, 1) := bdX8_rest_0 (27, .iaload, 1) (List.mem_of_getElem? (i := 15) rfl)
theorem dX8_rest_28 : decode cX8_rest 28 = .ok (.iconst 3, 1) := bdX8_rest_0 (28, .iconst 3, 1) (List.mem_of_getElem? (i := 16) rfl)
theorem dX8_rest_29 : decode cX8_rest 29 = .ok (.if_icmp .eq 6, 3) := bdX8_rest_0 (29, .if_icmp .eq 6, 3) (List.mem_of_getElem? (i := 17) rfl)
theorem dX8_rest_32 : decode cX8_rest 32 = .ok (.ldc 140, 2) := bdX8_rest_0 (32, .ldc 140, 2) (List.mem_of_getElem? (i := 18) rfl)
theorem dX8_rest_34 : decode cX8_rest 34 = .ok (.ireturn, 1) := bdX8_rest_0 (34, .ireturn, 1) (List.mem_of_getElem? (i := 19) rfl)
theorem dX8_rest_35 : decode cX8_rest 35 = .ok (.iload_n 2, 1) := bdX8_rest_0 (35, .iload_n 2, 1) (List.mem_of_getElem? (i := 20) rfl)
theorem dX8_rest_36 : decode cX8_rest 36 = .ok (.ifCond .ne 9, 3) := bdX8_rest_0 (36, .ifCond .ne 9, 3) (List.mem_of_getElem? (i := 21) rfl)
theorem dX8_rest_39 : decode cX8_rest 39 = .ok (.ldc_w 265, 3) := bdX8_rest_0 (39, .ldc_w 265, 3) (List.mem_of_getElem? (i := 22) rfl)
theorem dX8_rest_42 : decode cX8_rest 42 = .ok (.goto 20, 3) := bdX8_rest_0 (42, .goto 20, 3) (List.mem_of_getElem? (i := 23) rfl)
theorem dX8_rest_45 : decode cX8_rest 45 = .ok (.iload_n 2, 1) := bdX8_rest_0 (45, .iload_n 2, 1) (List.mem_of_getElem? (i := 24) rfl)
theorem dX8_rest_46 : decode cX8_rest 46 = .ok (.iconst (-1), 1) := bdX8_rest_0 (46, .iconst (-1), 1) (List.mem_of_getElem? (i := 25) rfl)
theorem dX8_rest_47 : decode cX8_rest 47 = .ok (.if_icmp .ne 7, 3) := bdX8_rest_0 (47, .if_icmp .ne 7, 3) (List.mem_of_getElem? (i := 26) rfl)
theorem dX8_rest_50 : decode cX8_rest 50 = .ok (.iconst 0, 1) := bdX8_rest_0 (50, .iconst 0, 1) (List.mem_of_getElem? (i := 27) rfl)
theorem dX8_rest_51 : decode cX8_rest 51 = .ok (.goto 11, 3) := bdX8_rest_0 (51, .goto 11, 3) (List.mem_of_getElem? (i := 28) rfl)
theorem dX8_rest_54 : decode cX8_rest 54 = .ok (.aload_n 0, 1) := bdX8_rest_0 (54, .aload_n 0, 1) (List.mem_of_getElem? (i := 29) rfl)
theorem dX8_rest_55 : decode cX8_rest 55 = .ok (.getfield 63, 3) := bdX8_rest_0 (55, .getfield 63, 3) (List.mem_of_getElem? (i := 30) rfl)
theorem dX8_rest_58 : decode cX8_rest 58 = .ok (.iload_n 1, 1) := bdX8_rest_0 (58, .iload_n 1, 1) (List.mem_of_getElem? (i := 31) rfl)
theorem dX8_rest_59 : decode cX8_rest 59 = .ok (.iaload, 1) := bdX8_rest_0 (59, .iaload, 1) (List.mem_of_getElem? (i := 32) rfl)
theorem dX8_rest_60 : decode cX8_rest 60 = .ok (.iload_n 2, 1) := bdX8_rest_0 (60, .iload_n 2, 1) (List.mem_of_getElem? (i := 33) rfl)
theorem dX8_rest_61 : decode cX8_rest 61 = .ok (.irem, 1) := bdX8_rest_0 (61, .irem, 1) (List.mem_of_getElem? (i := 34) rfl)
theorem dX8_rest_62 : decode cX8_rest 62 = .ok (.ireturn, 1) := bdX8_rest_0 (62, .ireturn, 1) (List.mem_of_getElem? (i := 35) rfl)
def wpX8_rest (ln : Nat → Nat) (S : HC) (a0 : Nat) (a1 : Int32) (a2 : Int32) (post : Int32 → HC → Prop) : Prop := wpX8_isSlot ln S a1 fun z1 S => if z1 = 0 then (post (-1000000001 : Int32) S) else (dn_ (hR S a0 27) fun b2 => al_ (ln b2) a1 (hI S b2) fun z3 => if z3 = 0 then (post (-1000000011 : Int32) S) else (dn_ (hR S a0 27) fun b4 => al_ (ln b4) a1 (hI S b4) fun z5 => if z5 = (3 : Int32) then (if a2 = 0 then (post (-1000000002 : Int32) S) else (if a2 = (-1 : Int32) then (post (0 : Int32) S) else (dn_ (hR S a0 28) fun b6 => al_ (ln b6) a1 (hI S b6) fun z7 => ne_ a2 <| lt_ (z7 - z7 / a2 * a2) fun z8 => post z8 S))) else (post (-1000000012 : Int32) S)))
abbrev rmX8_rest : Room := { frames := 2, cells := 0, slots := 0, locals := 42 }
set_option maxHeartbeats 4000000 in
set_option maxRecDepth 100000 in
theorem ctX8_rest {l : Launch} {g : GX} {N : Nat} {ln : Nat → Nat} {S : HC} {a0 : Nat} {a1 : Int32} {a2 : Int32} {post : Int32 → HC → Prop} (hr_a0 : a0 < N) (hk_a0 : kd a0 = 8) (h : wpX8_rest ln S a0 a1 a2 post) : Met l yX8_rest (Cond.code yX8_rest prog_10_method_83_code 3 (Option.some Jvm.ClassFile.FieldType.int) :: gtbl) rmX8_rest (va_Pc [.ref (gz g + a0), .int a1, .int a2] (AtP g N ln S)) (QI g N ln post) 0 0 (gF g) := by
  refine m_of (by decide) (Nat.le_of_ble_eq_true rfl) ?_
  intro p e s m below meth c ls F hr I hl
  have hl : lv_has ls 3 [(0, .ref (gz g + a0)), (1, .int a1), (2, .int a2)] := hl
  unfold wpX8_rest at h
  refine lv_iload_n F.1 F.2.1 dX8_rest_0 rfl (lv_at hl 1 rfl) ?_
  refine g_I I (run_S (As := [.int a1]) (rest := []) F I kX8_262 (ctX8_isSlot h) ⟨rfl, rfl⟩ ⟨Nat.le_of_ble_eq_true rfl, Nat.le_of_ble_eq_true rfl⟩ rfl hl.1 rfl (Nat.le_of_ble_eq_true rfl) ⟨Nat.le_of_ble_eq_true rfl, Nat.le_of_ble_eq_true rfl⟩ dX8_rest_1) (fun z1 S H locs I h => ?_)
  refine r_if_ne (tgt := 10) F dX8_rest_4 (by decide) h (fun h => ?_) (fun h => ?_)
  · refine lv_aload_n F.1 F.2.1 dX8_rest_10 rfl (lv_at hl 0 rfl) ?_
    refine r_getN F I hr_a0 hk_a0 fX8_60 (f := 9) rfl (by decide) dX8_rest_11 h (fun b2 hr_b2 hk_b2 h => ?_)
    refine lv_iload_n F.1 F.2.1 dX8_rest_14 rfl (lv_at hl 1 rfl) ?_
    refine r_ald F I hr_b2 hk_b2 dX8_rest_15 h (fun z3 h => ?_)
    refine r_if_ne (tgt := 22) F dX8_rest_16 (by decide) h (fun h => ?_) (fun h => ?_)
    · refine lv_aload_n F.1 F.2.1 dX8_rest_22 rfl (lv_at hl 0 rfl) ?_
      refine r_getN F I hr_a0 hk_a0 fX8_60 (f := 9) rfl (by decide) dX8_rest_23 h (fun b4 hr_b4 hk_b4 h => ?_)
      refine lv_iload_n F.1 F.2.1 dX8_rest_26 rfl (lv_at hl 1 rfl) ?_
      refine r_ald F I hr_b4 hk_b4 dX8_rest_27 h (fun z5 h => ?_)
      refine lv_iconst (v := 3) F.1 F.2.1 dX8_rest_28 (by decide) ?_
      refine r_icmp_eq (tgt := 35) F dX8_rest_29 (by decide) h (fun h => ?_) (fun h => ?_)
      · refine lv_iload_n F.1 F.2.1 dX8_rest_35 rfl (lv_at hl 2 rfl) ?_
        refine r_if_ne (tgt := 45) F dX8_rest_36 (by decide) h (fun h => ?_) (fun h => ?_)
        · refine lv_iload_n F.1 F.2.1 dX8_rest_45 rfl (lv_at hl 2 rfl) ?_
          refine lv_iconst (v := -1) F.1 F.2.1 dX8_rest_46 (by decide) ?_
          refine r_icmp_ne (tgt := 54) F dX8_rest_47 (by decide) h (fun h => ?_) (fun h => ?_)
          · refine lv_aload_n F.1 F.2.1 dX8_rest_54 rfl (lv_at hl 0 rfl) ?_
            refine r_getN F I hr_a0 hk_a0 fX8_63 (f := 9) rfl (by decide) dX8_rest_55 h (fun b6 hr_b6 hk_b6 h => ?_)
            refine lv_iload_n F.1 F.2.1 dX8_rest_58 rfl (lv_at hl 1 rfl) ?_
            refine r_ald F I hr_b6 hk_b6 dX8_rest_59 h (fun z7 h => ?_)
            refine lv_iload_n F.1 F.2.1 dX8_rest_60 rfl (lv_at hl 2 rfl) ?_
            refine r_irem F dX8_rest_61 h (fun z8 h => ?_)
            exact r_ireturn F I ⟨hr.1, hr.2.1, trivial⟩ h dX8_rest_62
          · refine lv_iconst (v := 0) F.1 F.2.1 dX8_rest_50 (by decide) ?_
            refine lv_goto (tgt := 62) F.1 F.2.1 dX8_rest_51 (by decide) ?_
            exact r_ireturn F I ⟨hr.1, hr.2.1, trivial⟩ h dX8_rest_62
        · refine lv_ldcw F.1 F.2.1 F.2.2.2.1 (F.2.2.2.2 _ tw_1367) dX8_rest_39 ?_
          refine lv_goto (tgt := 62) F.1 F.2.1 dX8_rest_42 (by decide) ?_
          exact r_ireturn F I ⟨hr.1, hr.2.1, trivial⟩ h dX8_rest_62
      · refine lv_ldc F.1 F.2.1 F.2.2.2.1 (F.2.2.2.2 _ tw_1127) dX8_rest_32 ?_
        exact r_ireturn F I ⟨hr.1, hr.2.1, trivial⟩ h dX8_rest_34
    · refine lv_ldc F.1 F.2.1 F.2.2.2.1 (F.2.2.2.2 _ tw_1248) dX8_rest_19 ?_
      exact r_ireturn F I ⟨hr.1, hr.2.1, trivial⟩ h dX8_rest_21
  · refine lv_ldc F.1 F.2.1 F.2.2.2.1 (F.2.2.2.2 _ tw_1064) dX8_rest_7 ?_
    exact r_ireturn F I ⟨hr.1, hr.2.1, trivial⟩ h dX8_rest_9
theorem bdX8_tell_0 : ∀ q ∈ ([(0, .aload_n 0, 1), (1, .getfield 266, 3), (4, .bipush 60, 2), (6, .if_icmp .ne 6, 3), (9, .ldc 99, 2), (11, .ireturn, 1), (12, .aload_n 0, 1), (13, .getfield 75, 3), (16, .aload_n 0, 1), (17, .getfield 266, 3), (20, .iload_n 1, 1), (21, .iastore, 1), (22, .aload_n 0, 1), (23, .dup, 1), (24, .getfield 266, 3), (27, .iconst 1, 1), (28, .iadd, 1), (29, .putfield 266, 3), (32, .aload_n 0, 1), (33, .getfield 266, 3), (36, .ireturn, 1)] : List (Nat × Jvm.ClassFile.Instr × Nat)), decode cX8_tell q.1 = .ok q.2 := chk_ok _ 0 _ rfl (by decide +kernel)
theorem dX8_tell_0 : decode cX8_tell 0 = .ok (.aload_n 0, 1) := bdX8_tell_0 (0, .aload_n 0, 1) (List.mem_of_getElem? (i := 0) rfl)
theorem dX8_tell_1 : decode cX8_tell 1 = .ok (.getfield 266, 3) := bdX8_tell_0 (1, .getfield 266, 3) (List.mem_of_getElem? (i := 1) rfl)
theorem dX8_tell_4 : decode cX8_tell 4 = .ok (.bipush 60, 2) := bdX8_tell_0 (4, .bipush 60, 2) (List.mem_of_getElem? (i := 2) rfl)
theorem dX8_tell_6 : decode cX8_tell 6 = .ok (.if_icmp .ne 6, 3) := bdX8_tell_0 (6, .if_icmp .ne 6, 3) (List.mem_of_getElem? (i := 3) rfl)
theorem dX8_tell_9 : decode cX8_tell 9 = .ok (.ldc 99, 2) := bdX8_tell_0 (9, .ldc 99, 2) (List.mem_of_getElem? (i := 4) rfl)
theorem dX8_tell_11 : decode cX8_tell 11 = .ok (.ireturn, 1) := bdX8_tell_0 (11, .ireturn, 1) (List.mem_of_getElem? (i := 5) rfl)
theorem dX8_tell_12 : decode cX8_tell 12 = .ok (.aload_n 0, 1) := bdX8_tell_0 (12, .aload_n 0, 1) (List.mem_of_getElem? (i := 6) rfl)
theorem dX8_tell_13 : decode cX8_tell 13 = .ok (.getfield 75, 3) := bdX8_tell_0 (13, .getfield 75, 3) (List.mem_of_getElem? (i := 7) rfl)
theorem dX8_tell_16 : decode cX8_tell 16 = .ok (.aload_n 0, 1) := bdX8_tell_0 (16, .aload_n 0, 1) (List.mem_of_getElem? (i := 8) rfl)
theorem dX8_tell_17 : decode cX8_tell 17 = .ok (.getfield 266, 3) := bdX8_tell_0 (17, .getfield 266, 3) (List.mem_of_getElem? (i := 9) rfl)
theorem dX8_tell_20 : decode cX8_tell 20 = .ok (.iload_n 1, 1) := bdX8_tell_0 (20, .iload_n 1, 1) (List.mem_of_getElem? (i := 10) rfl)
theorem dX8_tell_21 : decode cX8_tell 21 = .ok (.iastore, 1) := bdX8_tell_0 (21, .iastore, 1) (List.mem_of_getElem? (i := 11) rfl)
theorem dX8_tell_22 : decode cX8_tell 22 = .ok (.aload_n 0, 1) := bdX8_tell_0 (22, .aload_n 0, 1) (List.mem_of_getElem? (i := 12) rfl)
theorem dX8_tell_23 : decode cX8_tell 23 = .ok (.dup, 1) := bdX8_tell_0 (23, .dup, 1) (List.mem_of_getElem? (i := 13) rfl)
theorem dX8_tell_24 : decode cX8_tell 24 = .ok (.getfield 266, 3) := bdX8_tell_0 (24, .getfield 266, 3) (List.mem_of_getElem? (i := 14) rfl)
theorem dX8_tell_27 : decode cX8_tell 27 = .ok (.iconst 1, 1) := bdX8_tell_0 (27, .iconst 1, 1) (List.mem_of_getElem? (i := 15) rfl)
theorem dX8_tell_28 : decode cX8_tell 28 = .ok (.iadd, 1) := bdX8_tell_0 (28, .iadd, 1) (List.mem_of_getElem? (i := 16) rfl)
theorem dX8_tell_29 : decode cX8_tell 29 = .ok (.putfield 266, 3) := bdX8_tell_0 (29, .putfield 266, 3) (List.mem_of_getElem? (i := 17) rfl)
theorem dX8_tell_32 : decode cX8_tell 32 = .ok (.aload_n 0, 1) := bdX8_tell_0 (32, .aload_n 0, 1) (List.mem_of_getElem? (i := 18) rfl)
theorem dX8_tell_33 : decode cX8_tell 33 = .ok (.getfield 266, 3) := bdX8_tell_0 (33, .getfield 266, 3) (List.mem_of_getElem? (i := 19) rfl)
theorem dX8_tell_36 : decode cX8_tell 36 = .ok (.ireturn, 1) := bdX8_tell_0 (36, .ireturn, 1) (List.mem_of_getElem? (i := 20) rfl)
theorem fX8_266 : fldOK RX8 266 8 33 .int false := ⟨_, _, _, tyX8, ⟨rfl, iX8, by decide, rfl, by decide⟩, tw_970, ⟨tyX8_ok, nmX8⟩, by decide +kernel, rfl, rfl⟩
theorem fX8_75 : fldOK RX8 75 8 32 (.array .int) true := ⟨_, _, _, tyX8, ⟨rfl, iX8, by decide, rfl, by decide⟩, tw_969, ⟨tyX8_ok, nmX8⟩, by decide +kernel, rfl, rfl⟩
def wpX8_tell (ln : Nat → Nat) (S : HC) (a0 : Nat) (a1 : Int32) (post : Int32 → HC → Prop) : Prop := lt_ (hI S a0 33) fun z1 => if z1 = (60 : Int32) then (post (-1000000003 : Int32) S) else (dn_ (hR S a0 32) fun b2 => lt_ (hI S a0 33) fun z3 => as_ (ln b2) z3 (fun j => sI S b2 j a1) fun S => lt_ (hI S a0 33) fun z4 => lt_ (z4 + (1 : Int32)) fun z5 => lt_ (sI S a0 33 z5) fun S => lt_ (hI S a0 33) fun z6 => post z6 S)
abbrev rmX8_tell : Room := { frames := 0, cells := 0, slots := 0, locals := 0 }
set_option maxHeartbeats 4000000 in
set_option maxRecDepth 100000 in
theorem ctX8_tell {l : Launch} {g : GX} {N : Nat} {ln : Nat → Nat} {S : HC} {a0 : Nat} {a1 : Int32} {post : Int32 → HC → Prop} (hr_a0 : a0 < N) (hk_a0 : kd a0 = 8) (h : wpX8_tell ln S a0 a1 post) : Met l yX8_tell (Cond.code yX8_tell prog_10_method_84_code 2 (Option.some Jvm.ClassFile.FieldType.int) :: gtbl) rmX8_tell (va_Pc [.ref (gz g + a0), .int a1] (AtP g N ln S)) (QI g N ln post) 0 0 (gF g) := by
  refine m_of (by decide) (Nat.le_of_ble_eq_true rfl) ?_
  intro p e s m below meth c ls F hr I hl
  have hl : lv_has ls 2 [(0, .ref (gz g + a0)), (1, .int a1)] := hl
  unfold wpX8_tell at h
  refine lv_aload_n F.1 F.2.1 dX8_tell_0 rfl (lv_at hl 0 rfl) ?_
  refine r_getI F I hr_a0 hk_a0 fX8_266 rfl dX8_tell_1 h (fun z1 h => ?_)
  refine lv_bipush (v := 60) F.1 F.2.1 dX8_tell_4 (by decide) ?_
  refine r_icmp_ne (tgt := 12) F dX8_tell_6 (by decide) h (fun h => ?_) (fun h => ?_)
  · refine lv_aload_n F.1 F.2.1 dX8_tell_12 rfl (lv_at hl 0 rfl) ?_
    refine r_getN F I hr_a0 hk_a0 fX8_75 (f := 9) rfl (by decide) dX8_tell_13 h (fun b2 hr_b2 hk_b2 h => ?_)
    refine lv_aload_n F.1 F.2.1 dX8_tell_16 rfl (lv_at hl 0 rfl) ?_
    refine r_getI F I hr_a0 hk_a0 fX8_266 rfl dX8_tell_17 h (fun z3 h => ?_)
    refine lv_iload_n F.1 F.2.1 dX8_tell_20 rfl (lv_at hl 1 rfl) ?_
    refine r_ast F I hr_b2 hk_b2 dX8_tell_21 h (fun S H locs I h => ?_)
    refine lv_aload_n F.1 F.2.1 dX8_tell_22 rfl (lv_at hl 0 rfl) ?_
    refine lv_dup F.1 F.2.1 dX8_tell_23 rfl ?_
    refine r_getI F I hr_a0 hk_a0 fX8_266 rfl dX8_tell_24 h (fun z4 h => ?_)
    refine lv_iconst (v := 1) F.1 F.2.1 dX8_tell_27 (by decide) ?_
    refine r_iadd F dX8_tell_28 h (fun z5 h => ?_)
    refine r_putI F I hr_a0 hk_a0 fX8_266 rfl (Or.inl rfl) ⟨rfl, rfl⟩ dX8_tell_29 h (fun S H locs I h => ?_)
    refine lv_aload_n F.1 F.2.1 dX8_tell_32 rfl (lv_at hl 0 rfl) ?_
    refine r_getI F I hr_a0 hk_a0 fX8_266 rfl dX8_tell_33 h (fun z6 h => ?_)
    exact r_ireturn F I ⟨hr.1, hr.2.1, trivial⟩ h dX8_tell_36
  · refine lv_ldc F.1 F.2.1 F.2.2.2.1 (F.2.2.2.2 _ tw_1065) dX8_tell_9 ?_
    exact r_ireturn F I ⟨hr.1, hr.2.1, trivial⟩ h dX8_tell_11
theorem bdX8_check_0 : ∀ q ∈ ([(0, .aload_n 0, 1), (1, .getfield 266, 3), (4, .istore_n 2, 1), (5, .aload_n 0, 1), (6, .iconst 0, 1), (7, .putfield 266, 3), (10, .iload_n 1, 1), (11, .iconst 1, 1), (12, .bipush 30, 2), (14, .invokestatic 79, 3), (17, .ifCond .ne 6, 3), (20, .ldc 98, 2), (22, .ireturn, 1), (23, .aload_n 0, 1), (24, .getfield 269, 3), (27, .ifCond .ne 7, 3), (30, .ldc_w 265, 3), (33, .ireturn, 1), (34, .aload_n 0, 1), (35, .getfield 9, 3), (38, .aload_n 0, 1), (39, .getfield 16, 3), (42, .invokestatic 273, 3), (45, .aload_n 0, 1), (46, .getfield 13, 3), (49, .aload_n 0, 1), (50, .getfield 9, 3), (53, .invokestatic 273, 3), (56, .iconst 2, 1), (57, .sipush 9999, 3), (60, .aload_n 0, 1), (61, .getfield 9, 3), (64, .iconst 2, 1), (65, .iaload, 1), (66, .isub, 1), (67, .iconst 0, 1), (68, .iload_n 1, 1), (69, .invokestatic 117, 3), (72, .imul, 1), (73, .istore_n 3, 1)] : List (Nat × Jvm.ClassFile.Instr × Nat)), decode cX8_check q.1 = .ok q.2 := chk_ok _ 0 _ rfl (by decide +kernel)
theorem dX8_check_0 : decode cX8_check 0 = .ok (.aload_n 0, 1) := bdX8_check_0 (0, .aload_n 0, 1) (List.mem_of_getElem? (i := 0) rfl)
theorem dX8_check_1 : decode cX8_check 1 = .ok (.getfield 266, 3) := bdX8_check_0 (1, .getfield 266, 3) (List.mem_of_getElem? (i := 1) rfl)
theorem dX8_check_4 : decode cX8_check 4 = .ok (.istore_n 2, 1) := bdX8_check_0 (4, .istore_n 2, 1) (List.mem_of_getElem? (i := 2) rfl)
theorem dX8_check_5 : decode cX8_check 5 = .ok (.aload_n 0, 1) := bdX8_check_0 (5, .aload_n 0, 1) (List.mem_of_getElem? (i := 3) rfl)
theorem dX8_check_6 : decode cX8_check 6 = .ok (.iconst 0, 1) := bdX8_check_0 (6, .iconst 0, 1) (List.mem_of_getElem? (i := 4) rfl)
theorem dX8_check_7 : decode cX8_check 7 = .ok (.putfield 266, 3) := bdX8_check_0 (7, .putfield 266, 3) (List.mem_of_getElem? (i := 5) rfl)
theorem dX8_check_10 : decode cX8_check 10 = .ok (.iload_n 1, 1) := bdX8_check_0 (10, .iload_n 1, 1) (List.mem_of_getElem? (i := 6) rfl)
theorem dX8_check_11 : decode cX8_check 11 = .ok (.iconst 1, 1) := bdX8_check_0 (11, .iconst 1, 1) (List.mem_of_getElem? (i := 7) rfl)
theorem dX8_check_12 : decode cX8_check 12 = .ok (.bipush 30, 2) := bdX8_check_0 (12, .bipush 30, 2) (List.mem_of_getElem? (i := 8) rfl)
theorem dX8_check_14 : decode cX8_check 14 = .ok (.invokestatic 79, 3) := bdX8_check_0 (14, .invokestatic 79, 3) (List.mem_of_getElem? (i := 9) rfl)
theorem dX8_check_17 : decode cX8_check 17 = .ok (.ifCond .ne 6, 3) := bdX8_check_0 (17, .ifCond .ne 6, 3) (List.mem_of_getElem? (i := 10) rfl)
theorem dX8_check_20 : decode cX8_check 20 = .ok (.ldc 98, 2) := bdX8_check_0 (20, .ldc 98, 2) (List.mem_of_getElem? (i := 11) rfl)
theorem dX8_check_22 : decode cX8_check 22 = .ok (.ireturn, 1) := bdX8_check_0 (22, .ireturn, 1) (List.mem_of_getElem? (i := 12) rfl)
theorem dX8_check_23 : decode cX8_check 23 = .ok (.aload_n 0, 1) := bdX8_check_0 (23, .aload_n 0, 1) (List.mem_of_getElem? (i := 13) rfl)
theorem dX8_check_24 : decode cX8_check 24 = .ok (.getfield 269, 3) := bdX8_check_0 (24, .getfield 269, 3) (List.mem_of_getElem? (i := 14) rfl)
theorem dX8_check_27 : decode cX8_check 27 = .ok (.ifCond .ne 7, 3) := bdX8_check_0 (27, .ifCond .ne 7, 3) (List.mem_of_getElem? (i := 15) rfl)
theorem dX8_check_30 : decode cX8_check 30 = .ok (.ldc_w 265, 3) := bdX8_check_0 (30, .ldc_w 265, 3) (List.mem_of_getElem? (i := 16) rfl)
theorem dX8_check_33 : decode cX8_check 33 = .ok (.ireturn, 1) := bdX8_check_0 (33, .ireturn, 1) (List.mem_of_getElem? (i := 17) rfl)
theorem dX8_check_34 : decode cX8_check 34 = .ok (.aload_n 0, 1) := bdX8_check_0 (34, .aload_n 0, 1) (List.mem_of_getElem? (i := 18) rfl)
theorem dX8_check_35 : decode cX8_check 35 = .ok (.getfield 9, 3) := bdX8_check_0 (35, .getfield 9, 3) (List.mem_of_getElem? (i := 19) rfl)
theorem dX8_check_38 : decode cX8_check 38 = .ok (.aload_n 0, 1) := bdX8_check_0 (38, .aload_n 0, 1) (List.mem_of_getElem? (i := 20) rfl)
theorem dX8_check_39 : decode cX8_check 39 = .ok (.getfield 16, 3) := bdX8_check_0 (39, .getfield 16, 3) (List.mem_of_getElem? (i := 21) rfl)
theorem dX8_check_42 : decode cX8_check 42 = .ok (.invokestatic 273, 3) := bdX8_check_0 (42, .invokestatic 273, 3) (List.mem_of_getElem? (i := 22) rfl)
theorem dX8_check_45 : decode cX8_check 45 = .ok (.aload_n 0, 1) := bdX8_check_0 (45, .aload_n 0, 1) (List.mem_of_getElem? (i := 23) rfl)
theorem dX8_check_46 : decode cX8_check 46 = .ok (.getfield 13, 3) := bdX8_check_0 (46, .getfield 13, 3) (List.mem_of_getElem? (i := 24) rfl)
theorem dX8_check_49 : decode cX8_check 49 = .ok (.aload_n 0, 1) := bdX8_check_0 (49, .aload_n 0, 1) (List.mem_of_getElem? (i := 25) rfl)
theorem dX8_check_50 : decode cX8_check 50 = .ok (.getfield 9, 3) := bdX8_check_0 (50, .getfield 9, 3) (List.mem_of_getElem? (i := 26) rfl)
theorem dX8_check_53 : decode cX8_check 53 = .ok (.invokestatic 273, 3) := bdX8_check_0 (53, .invokestatic 273, 3) (List.mem_of_getElem? (i := 27) rfl)
theorem dX8_check_56 : decode cX8_check 56 = .ok (.iconst 2, 1) := bdX8_check_0 (56, .iconst 2, 1) (List.mem_of_getElem? (i := 28) rfl)
theorem dX8_check_57 : decode cX8_check 57 = .ok (.sipush 9999, 3) := bdX8_check_0 (57, .sipush 9999, 3) (List.mem_of_getElem? (i := 29) rfl)
theorem dX8_check_60 : decode cX8_check 60 = .ok (.aload_n 0, 1) := bdX8_check_0 (60, .aload_n 0, 1) (List.mem_of_getElem? (i := 30) rfl)
theorem dX8_check_61 : decode cX8_check 61 = .ok (.getfield 9, 3) := bdX8_check_0 (61, .getfield 9, 3) (List.mem_of_getElem? (i := 31) rfl)
theorem dX8_check_64 : decode cX8_check 64 = .ok (.iconst 2, 1) := bdX8_check_0 (64, .iconst 2, 1) (List.mem_of_getElem? (i := 32) rfl)
theorem dX8_check_65 : decode cX8_check 65 = .ok (.iaload, 1) := bdX8_check_0 (65, .iaload, 1) (List.mem_of_getElem? (i := 33) rfl)
theorem dX8_check_66 : decode cX8_check 66 = .ok (.isub, 1) := bdX8_check_0 (66, .isub, 1) (List.mem_of_getElem? (i := 34) rfl)
theorem dX8_check_67 : decode cX8_check 67 = .ok (.iconst 0, 1) := bdX8_check_0 (67, .iconst 0, 1) (List.mem_of_getElem? (i := 35) rfl)
theorem dX8_check_68 : decode cX8_check 68 = .ok (.iload_n 1, 1) := bdX8_check_0 (68, .iload_n 1, 1) (List.mem_of_getElem? (i := 36) rfl)
theorem dX8_check_69 : decode cX8_check 69 = .ok (.invokestatic 117, 3) := bdX8_check_0 (69, .invokestatic 117, 3) (List.mem_of_getElem? (i := 37) rfl)
theorem dX8_check_72 : decode cX8_check 72 = .ok (.imul, 1) := bdX8_check_0 (72, .imul, 1) (List.mem_of_getElem? (i := 38) rfl)
theorem dX8_check_73 : decode cX8_check 73 = .ok (.istore_n 3, 1) := bdX8_check_0 (73, .istore_n 3, 1) (List.mem_of_getElem? (i := 39) rfl)
theorem bdX8_check_74 : ∀ q ∈ ([(74, .iconst 0, 1), (75, .istore 4, 2), (77, .iconst 0, 1), (78, .istore 5, 2), (80, .iconst 2, 1), (81, .iload 5, 2), (83, .imul, 1), (84, .iload_n 3, 1), (85, .if_icmp .ge 96, 3), (88, .iload 4, 2), (90, .iconst 2, 1), (91, .iload 5, 2), (93, .imul, 1), (94, .if_icmp .ne 87, 3), (97, .aload_n 0, 1), (98, .invokevirtual 155, 3), (101, .iload 4, 2), (103, .iload 4, 2), (105, .iload_n 2, 1), (106, .if_icmp .ge 23, 3), (109, .aload_n 0, 1), (110, .getfield 75, 3), (113, .iload 4, 2), (115, .iaload, 1), (116, .aload_n 0, 1), (117, .getfield 9, 3), (120, .iconst 1, 1), (121, .iaload, 1), (122, .if_icmp .ne 7, 3), (125, .iconst 1, 1), (126, .goto 4, 3), (129, .iconst 0, 1), (130, .iadd, 1), (131, .istore 4, 2), (133, .iload 4, 2), (135, .iload 4, 2), (137, .iconst 2, 1), (138, .iload 5, 2), (140, .imul, 1), (141, .iconst 1, 1)] : List (Nat × Jvm.ClassFile.Instr × Nat)), decode cX8_check q.1 = .ok q.2 := chk_ok _ 74 _ rfl (by decide +kernel)
theorem dX8_check_74 : decode cX8_check 74 = .ok (.iconst 0, 1) := bdX8_check_74 (74, .iconst 0, 1) (List.mem_of_getElem? (i := 0) rfl)
theorem dX8_check_75 : decode cX8_check 75 = .ok (.istore 4, 2) := bdX8_check_74 (75, .istore 4, 2) (List.mem_of_getElem? (i := 1) rfl)
theorem dX8_check_77 : decode cX8_check 77 = .ok (.iconst 0, 1) := bdX8_check_74 (77, .iconst 0, 1) (List.mem_of_getElem? (i := 2) rfl)
theorem dX8_check_78 : decode cX8_check 78 = .ok (.istore 5, 2) := bdX8_check_74 (78, .istore 5, 2) (List.mem_of_getElem? (i := 3) rfl)
theorem dX8_check_80 : decode cX8_check 80 = .ok (.iconst 2, 1) := bdX8_check_74 (80, .iconst 2, 1) (List.mem_of_getElem? (i := 4) rfl)
theorem dX8_check_81 : decode cX8_check 81 = .ok (.iload 5, 2) := bdX8_check_74 (81, .iload 5, 2) (List.mem_of_getElem? (i := 5) rfl)
theorem dX8_check_83 : decode cX8_check 83 = .ok (.imul, 1) := bdX8_check_74 (83, .imul, 1) (List.mem_of_getElem? (i := 6) rfl)
theorem dX8_check_84 : decode cX8_check 84 = .ok (.iload_n 3, 1) := bdX8_check_74 (84, .iload_n 3, 1) (List.mem_of_getElem? (i := 7) rfl)
theorem dX8_check_85 : decode cX8_check 85 = .ok (.if_icmp .ge 96, 3) := bdX8_check_74 (85, .if_icmp .ge 96, 3) (List.mem_of_getElem? (i := 8) rfl)
theorem dX8_check_88 : decode cX8_check 88 = .ok (.iload 4, 2) := bdX8_check_74 (88, .iload 4, 2) (List.mem_of_getElem? (i := 9) rfl)
theorem dX8_check_90 : decode cX8_check 90 = .ok (.iconst 2, 1) := bdX8_check_74 (90, .iconst 2, 1) (List.mem_of_getElem? (i := 10) rfl)
theorem dX8_check_91 : decode cX8_check 91 = .ok (.iload 5, 2) := bdX8_check_74 (91, .iload 5, 2) (List.mem_of_getElem? (i := 11) rfl)
theorem dX8_check_93 : decode cX8_check 93 = .ok (.imul, 1) := bdX8_check_74 (93, .imul, 1) (List.mem_of_getElem? (i := 12) rfl)
theorem dX8_check_94 : decode cX8_check 94 = .ok (.if_icmp .ne 87, 3) := bdX8_check_74 (94, .if_icmp .ne 87, 3) (List.mem_of_getElem? (i := 13) rfl)
theorem dX8_check_97 : decode cX8_check 97 = .ok (.aload_n 0, 1) := bdX8_check_74 (97, .aload_n 0, 1) (List.mem_of_getElem? (i := 14) rfl)
theorem dX8_check_98 : decode cX8_check 98 = .ok (.invokevirtual 155, 3) := bdX8_check_74 (98, .invokevirtual 155, 3) (List.mem_of_getElem? (i := 15) rfl)
theorem dX8_check_101 : decode cX8_check 101 = .ok (.iload 4, 2) := bdX8_check_74 (101, .iload 4, 2) (List.mem_of_getElem? (i := 16) rfl)
theorem dX8_check_103 : decode cX8_check 103 = .ok (.iload 4, 2) := bdX8_check_74 (103, .iload 4, 2) (List.mem_of_getElem? (i := 17) rfl)
theorem dX8_check_105 : decode cX8_check 105 = .ok (.iload_n 2, 1) := bdX8_check_74 (105, .iload_n 2, 1) (List.mem_of_getElem? (i := 18) rfl)
theorem dX8_check_106 : decode cX8_check 106 = .ok (.if_icmp .ge 23, 3) := bdX8_check_74 (106, .if_icmp .ge 23, 3) (List.mem_of_getElem? (i := 19) rfl)
theorem dX8_check_109 : decode cX8_check 109 = .ok (.aload_n 0, 1) := bdX8_check_74 (109, .aload_n 0, 1) (List.mem_of_getElem? (i := 20) rfl)
theorem dX8_check_110 : decode cX8_check 110 = .ok (.getfield 75, 3) := bdX8_check_74 (110, .getfield 75, 3) (List.mem_of_getElem? (i := 21) rfl)
theorem dX8_check_113 : decode cX8_check 113 = .ok (.iload 4, 2) := bdX8_check_74 (113, .iload 4, 2) (List.mem_of_getElem? (i := 22) rfl)
theorem dX8_check_115 : decode cX8_check 115 = .ok (.iaload, 1) := bdX8_check_74 (115, .iaload, 1) (List.mem_of_getElem? (i := 23) rfl)
theorem dX8_check_116 : decode cX8_check 116 = .ok (.aload_n 0, 1) := bdX8_check_74 (116, .aload_n 0, 1) (List.mem_of_getElem? (i := 24) rfl)
theorem dX8_check_117 : decode cX8_check 117 = .ok (.getfield 9, 3) := bdX8_check_74 (117, .getfield 9, 3) (List.mem_of_getElem? (i := 25) rfl)
theorem dX8_check_120 : decode cX8_check 120 = .ok (.iconst 1, 1) := bdX8_check_74 (120, .iconst 1, 1) (List.mem_of_getElem? (i := 26) rfl)
theorem dX8_check_121 : decode cX8_check 121 = .ok (.iaload, 1) := bdX8_check_74 (121, .iaload, 1) (List.mem_of_getElem? (i := 27) rfl)
theorem dX8_check_122 : decode cX8_check 122 = .ok (.if_icmp .ne 7, 3) := bdX8_check_74 (122, .if_icmp .ne 7, 3) (List.mem_of_getElem? (i := 28) rfl)
theorem dX8_check_125 : decode cX8_check 125 = .ok (.iconst 1, 1) := bdX8_check_74 (125, .iconst 1, 1) (List.mem_of_getElem? (i := 29) rfl)
theorem dX8_check_126 : decode cX8_check 126 = .ok (.goto 4, 3) := bdX8_check_74 (126, .goto 4, 3) (List.mem_of_getElem? (i := 30) rfl)
theorem dX8_check_129 : decode cX8_check 129 = .ok (.iconst 0, 1) := bdX8_check_74 (129, .iconst 0, 1) (List.mem_of_getElem? (i := 31) rfl)
theorem dX8_check_130 : decode cX8_check 130 = .ok (.iadd, 1) := bdX8_check_74 (130, .iadd, 1) (List.mem_of_getElem? (i := 32) rfl)
theorem dX8_check_131 : decode cX8_check 131 = .ok (.istore 4, 2) := bdX8_check_74 (131, .istore 4, 2) (List.mem_of_getElem? (i := 33) rfl)
theorem dX8_check_133 : decode cX8_check 133 = .ok (.iload 4, 2) := bdX8_check_74 (133, .iload 4, 2) (List.mem_of_getElem? (i := 34) rfl)
theorem dX8_check_135 : decode cX8_check 135 = .ok (.iload 4, 2) := bdX8_check_74 (135, .iload 4, 2) (List.mem_of_getElem? (i := 35) rfl)
theorem dX8_check_137 : decode cX8_check 137 = .ok (.iconst 2, 1) := bdX8_check_74 (137, .iconst 2, 1) (List.mem_of_getElem? (i := 36) rfl)
theorem dX8_check_138 : decode cX8_check 138 = .ok (.iload 5, 2) := bdX8_check_74 (138, .iload 5, 2) (List.mem_of_getElem? (i := 37) rfl)
theorem dX8_check_140 : decode cX8_check 140 = .ok (.imul, 1) := bdX8_check_74 (140, .imul, 1) (List.mem_of_getElem? (i := 38) rfl)
theorem dX8_check_141 : decode cX8_check 141 = .ok (.iconst 1, 1) := bdX8_check_74 (141, .iconst 1, 1) (List.mem_of_getElem? (i := 39) rfl)
theorem bdX8_check_142 : ∀ q ∈ ([(142, .iadd, 1), (143, .if_icmp .ne 28, 3), (146, .iload 4, 2), (148, .iload_n 2, 1), (149, .if_icmp .ge 22, 3), (152, .aload_n 0, 1), (153, .getfield 75, 3), (156, .iload 4, 2), (158, .iaload, 1), (159, .aload_n 0, 1), (160, .iconst 0, 1), (161, .invokevirtual 176, 3), (164, .if_icmp .ne 7, 3), (167, .iconst 1, 1), (168, .goto 4, 3), (171, .iconst 0, 1), (172, .iadd, 1), (173, .istore 4, 2), (175, .iinc 5 1, 3), (178, .goto (-98), 3), (181, .aload_n 0, 1), (182, .getfield 16, 3), (185, .aload_n 0, 1), (186, .getfield 9, 3), (189, .invokestatic 273, 3), (192, .iload 4, 2), (194, .iload_n 2, 1), (195, .if_icmp .ne 13, 3), (198, .iload 4, 2), (200, .iload_n 3, 1), (201, .if_icmp .ne 7, 3), (204, .iconst 0, 1), (205, .goto 7, 3), (208, .iconst 1, 1), (209, .iload 4, 2), (211, .iadd, 1), (212, .ireturn, 1)] : List (Nat × Jvm.ClassFile.Instr × Nat)), decode cX8_check q.1 = .ok q.2 := chk_ok _ 142 _ rfl (by decide +kernel)
theorem dX8_check_142 : decode cX8_check 142 = .ok (.iadd, 1) := bdX8_check_142 (142, .iadd, 1) (List.mem_of_getElem? (i := 0) rfl)
theorem dX8_check_143 : decode cX8_check 143 = .ok (.if_icmp .ne 28, 3) := bdX8_check_142 (143, .if_icmp .ne 28, 3) (List.mem_of_getElem? (i := 1) rfl)
theorem dX8_check_146 : decode cX8_check 146 = .ok (.iload 4, 2) := bdX8_check_142 (146, .iload 4, 2) (List.mem_of_getElem? (i := 2) rfl)
theorem dX8_check_148 : decode cX8_check 148 = .ok (.iload_n 2, 1) := bdX8_check_142 (148, .iload_n 2, 1) (List.mem_of_getElem? (i := 3) rfl)
theorem dX8_check_149 : decode cX8_check 149 = .ok (.if_icmp .ge 22, 3) := bdX8_check_142 (149, .if_icmp .ge 22, 3) (List.mem_of_getElem? (i := 4) rfl)
theorem dX8_check_152 : decode cX8_check 152 = .ok (.aload_n 0, 1) := bdX8_check_142 (152, .aload_n 0, 1) (List.mem_of_getElem? (i := 5) rfl)
theorem dX8_check_153 : decode cX8_check 153 = .ok (.getfield 75, 3) := bdX8_check_142 (153, .getfield 75, 3) (List.mem_of_getElem? (i := 6) rfl)
theorem dX8_check_156 : decode cX8_check 156 = .ok (.iload 4, 2) := bdX8_check_142 (156, .iload 4, 2) (List.mem_of_getElem? (i := 7) rfl)
theorem dX8_check_158 : decode cX8_check 158 = .ok (.iaload, 1) := bdX8_check_142 (158, .iaload, 1) (List.mem_of_getElem? (i := 8) rfl)
theorem dX8_check_159 : decode cX8_check 159 = .ok (.aload_n 0, 1) := bdX8_check_142 (159, .aload_n 0, 1) (List.mem_of_getElem? (i := 9) rfl)
theorem dX8_check_160 : decode cX8_check 160 = .ok (.iconst 0, 1) := bdX8_check_142 (160, .iconst 0, 1) (List.mem_of_getElem? (i := 10) rfl)
theorem dX8_check_161 : decode cX8_check 161 = .ok (.invokevirtual 176, 3) := bdX8_check_142 (161, .invokevirtual 176, 3) (List.mem_of_getElem? (i := 11) rfl)
theorem dX8_check_164 : decode cX8_check 164 = .ok (.if_icmp .ne 7, 3) := bdX8_check_142 (164, .if_icmp .ne 7, 3) (List.mem_of_getElem? (i := 12) rfl)
theorem dX8_check_167 : decode cX8_check 167 = .ok (.iconst 1, 1) := bdX8_check_142 (167, .iconst 1, 1) (List.mem_of_getElem? (i := 13) rfl)
theorem dX8_check_168 : decode cX8_check 168 = .ok (.goto 4, 3) := bdX8_check_142 (168, .goto 4, 3) (List.mem_of_getElem? (i := 14) rfl)
theorem dX8_check_171 : decode cX8_check 171 = .ok (.iconst 0, 1) := bdX8_check_142 (171, .iconst 0, 1) (List.mem_of_getElem? (i := 15) rfl)
theorem dX8_check_172 : decode cX8_check 172 = .ok (.iadd, 1) := bdX8_check_142 (172, .iadd, 1) (List.mem_of_getElem? (i := 16) rfl)
theorem dX8_check_173 : decode cX8_check 173 = .ok (.istore 4, 2) := bdX8_check_142 (173, .istore 4, 2) (List.mem_of_getElem? (i := 17) rfl)
theorem dX8_check_175 : decode cX8_check 175 = .ok (.iinc 5 1, 3) := bdX8_check_142 (175, .iinc 5 1, 3) (List.mem_of_getElem? (i := 18) rfl)
theorem dX8_check_178 : decode cX8_check 178 = .ok (.goto (-98), 3) := bdX8_check_142 (178, .goto (-98), 3) (List.mem_of_getElem? (i := 19) rfl)
theorem dX8_check_181 : decode cX8_check 181 = .ok (.aload_n 0, 1) := bdX8_check_142 (181, .aload_n 0, 1) (List.mem_of_getElem? (i := 20) rfl)
theorem dX8_check_182 : decode cX8_check 182 = .ok (.getfield 16, 3) := bdX8_check_142 (182, .getfield 16, 3) (List.mem_of_getElem? (i := 21) rfl)
theorem dX8_check_185 : decode cX8_check 185 = .ok (.aload_n 0, 1) := bdX8_check_142 (185, .aload_n 0, 1) (List.mem_of_getElem? (i := 22) rfl)
theorem dX8_check_186 : decode cX8_check 186 = .ok (.getfield 9, 3) := bdX8_check_142 (186, .getfield 9, 3) (List.mem_of_getElem? (i := 23) rfl)
theorem dX8_check_189 : decode cX8_check 189 = .ok (.invokestatic 273, 3) := bdX8_check_142 (189, .invokestatic 273, 3) (List.mem_of_getElem? (i := 24) rfl)
theorem dX8_check_192 : decode cX8_check 192 = .ok (.iload 4, 2) := bdX8_check_142 (192, .iload 4, 2) (List.mem_of_getElem? (i := 25) rfl)
theorem dX8_check_194 : decode cX8_check 194 = .ok (.iload_n 2, 1) := bdX8_check_142 (194, .iload_n 2, 1) (List.mem_of_getElem? (i := 26) rfl)
theorem dX8_check_195 : decode cX8_check 195 = .ok (.if_icmp .ne 13, 3) := bdX8_check_142 (195, .if_icmp .ne 13, 3) (List.mem_of_getElem? (i := 27) rfl)
theorem dX8_check_198 : decode cX8_check 198 = .ok (.iload 4, 2) := bdX8_check_142 (198, .iload 4, 2) (List.mem_of_getElem? (i := 28) rfl)
theorem dX8_check_200 : decode cX8_check 200 = .ok (.iload_n 3, 1) := bdX8_check_142 (200, .iload_n 3, 1) (List.mem_of_getElem? (i := 29) rfl)
theorem dX8_check_201 : decode cX8_check 201 = .ok (.if_icmp .ne 7, 3) := bdX8_check_142 (201, .if_icmp .ne 7, 3) (List.mem_of_getElem? (i := 30) rfl)
theorem dX8_check_204 : decode cX8_check 204 = .ok (.iconst 0, 1) := bdX8_check_142 (204, .iconst 0, 1) (List.mem_of_getElem? (i := 31) rfl)
theorem dX8_check_205 : decode cX8_check 205 = .ok (.goto 7, 3) := bdX8_check_142 (205, .goto 7, 3) (List.mem_of_getElem? (i := 32) rfl)
theorem dX8_check_208 : decode cX8_check 208 = .ok (.iconst 1, 1) := bdX8_check_142 (208, .iconst 1, 1) (List.mem_of_getElem? (i := 33) rfl)
theorem dX8_check_209 : decode cX8_check 209 = .ok (.iload 4, 2) := bdX8_check_142 (209, .iload 4, 2) (List.mem_of_getElem? (i := 34) rfl)
theorem dX8_check_211 : decode cX8_check 211 = .ok (.iadd, 1) := bdX8_check_142 (211, .iadd, 1) (List.mem_of_getElem? (i := 35) rfl)
theorem dX8_check_212 : decode cX8_check 212 = .ok (.ireturn, 1) := bdX8_check_142 (212, .ireturn, 1) (List.mem_of_getElem? (i := 36) rfl)
theorem fX8_16 : fldOK RX8 16 8 2 (.array .int) true := ⟨_, _, _, tyX8, ⟨rfl, iX8, by decide, rfl, by decide⟩, tw_939, ⟨tyX8_ok, nmX8⟩, by decide +kernel, rfl, rfl⟩
theorem kX8_273 : mthS RX8 273 yX8_copyAll prog_10_method_4_code 3 (Option.none : Option Jvm.ClassFile.FieldType) 2 := ⟨⟨⟨tw_1376, tw_67, tw_1378⟩, rfl, by decide +kernel⟩, tw_1377⟩
theorem fX8_269 : fldOK RX8 269 8 3 .boolean false := ⟨_, _, _, tyX8, ⟨rfl, iX8, by decide, rfl, by decide⟩, tw_940, ⟨tyX8_ok, nmX8⟩, by decide +kernel, rfl, rfl⟩
theorem fX8_13 : fldOK RX8 13 8 1 (.array .int) true := ⟨_, _, _, tyX8, ⟨rfl, iX8, by decide, rfl, by decide⟩, tw_938, ⟨tyX8_ok, nmX8⟩, by decide +kernel, rfl, rfl⟩
def BX8_check_208 (ln : Nat → Nat) (post : Int32 → HC → Prop) (S : HC) (x4 : Int32) : Prop := lt_ ((1 : Int32) + x4) fun z1 => post z1 S
def BX8_check_181 (ln : Nat → Nat) (post : Int32 → HC → Prop) (S : HC) (x0 : Nat) (x2 : Int32) (x3 : Int32) (x4 : Int32) : Prop := dn_ (hR S x0 2) fun b2 => dn_ (hR S x0 0) fun b3 => wpX8_copyAll ln S b2 b3 fun S => if x4 = x2 then (if x4 = x3 then (post (0 : Int32) S) else (BX8_check_208 ln post S x4)) else (BX8_check_208 ln post S x4)
def BX8_check_172 (ln : Nat → Nat) (post : Int32 → HC → Prop) (K80 : HC → Nat → Int32 → Int32 → Int32 → Int32 → Prop) (S : HC) (x0 : Nat) (x2 : Int32) (x3 : Int32) (x5 : Int32) (t0 : Int32) (t1 : Int32) : Prop := lt_ (t0 + t1) fun z4 => lt_ (x5 + (1 : Int32)) fun z5 => K80 S x0 x2 x3 z4 z5
def BX8_check_171 (ln : Nat → Nat) (post : Int32 → HC → Prop) (K80 : HC → Nat → Int32 → Int32 → Int32 → Int32 → Prop) (S : HC) (x0 : Nat) (x2 : Int32) (x3 : Int32) (x5 : Int32) (t0 : Int32) : Prop := BX8_check_172 ln post K80 S x0 x2 x3 x5 t0 (0 : Int32)
def BX8_check_130 (ln : Nat → Nat) (post : Int32 → HC → Prop) (K80 : HC → Nat → Int32 → Int32 → Int32 → Int32 → Prop) (S : HC) (x0 : Nat) (x2 : Int32) (x3 : Int32) (x5 : Int32) (t0 : Int32) (t1 : Int32) : Prop := lt_ (t0 + t1) fun z6 => lt_ ((2 : Int32) * x5) fun z7 => lt_ (z7 + (1 : Int32)) fun z8 => if z6 = z8 then (if x2 ≤ z6 then (BX8_check_171 ln post K80 S x0 x2 x3 x5 z6) else (dn_ (hR S x0 32) fun b9 => al_ (ln b9) z6 (hI S b9) fun z10 => wpX8_allBear ln S x0 (0 : Int32) fun z11 S => if z10 = z11 then (BX8_check_172 ln post K80 S x0 x2 x3 x5 z6 (1 : Int32)) else (BX8_check_171 ln post K80 S x0 x2 x3 x5 z6))) else (BX8_check_171 ln post K80 S x0 x2 x3 x5 z6)
def BX8_check_129 (ln : Nat → Nat) (post : Int32 → HC → Prop) (K80 : HC → Nat → Int32 → Int32 → Int32 → Int32 → Prop) (S : HC) (x0 : Nat) (x2 : Int32) (x3 : Int32) (x5 : Int32) (t0 : Int32) : Prop := BX8_check_130 ln post K80 S x0 x2 x3 x5 t0 (0 : Int32)
def LX8_check_80 (ln : Nat → Nat) (post : Int32 → HC → Prop) : Nat → HC → Nat → Int32 → Int32 → Int32 → Int32 → Prop
  | 0 => fun _ _ _ _ _ _ => False
  | n80 + 1 => fun S x0 x2 x3 x4 x5 => lt_ ((2 : Int32) * x5) fun z12 => if x3 ≤ z12 then (BX8_check_181 ln post S x0 x2 x3 x4) else (lt_ ((2 : Int32) * x5) fun z13 => if x4 = z13 then (wpX8_year ln S x0 fun S => if x2 ≤ x4 then (BX8_check_129 ln post (LX8_check_80 ln post n80) S x0 x2 x3 x5 x4) else (dn_ (hR S x0 32) fun b14 => al_ (ln b14) x4 (hI S b14) fun z15 => dn_ (hR S x0 0) fun b16 => al_ (ln b16) (1 : Int32) (hI S b16) fun z17 => if z15 = z17 then (BX8_check_130 ln post (LX8_check_80 ln post n80) S x0 x2 x3 x5 x4 (1 : Int32)) else (BX8_check_129 ln post (LX8_check_80 ln post n80) S x0 x2 x3 x5 x4))) else (BX8_check_181 ln post S x0 x2 x3 x4))
def wpX8_check (ln : Nat → Nat) (S : HC) (a0 : Nat) (a1 : Int32) (post : Int32 → HC → Prop) : Prop := lt_ (hI S a0 33) fun z18 => lt_ (sI S a0 33 (0 : Int32)) fun S => wpX8_in ln S a1 (1 : Int32) (30 : Int32) fun z19 S => if z19 = 0 then (post (-1000000001 : Int32) S) else (lt_ (hI S a0 3) fun z20 => if z20 = 0 then (post (-1000000002 : Int32) S) else (dn_ (hR S a0 0) fun b21 => dn_ (hR S a0 2) fun b22 => wpX8_copyAll ln S b21 b22 fun S => dn_ (hR S a0 1) fun b23 => dn_ (hR S a0 0) fun b24 => wpX8_copyAll ln S b23 b24 fun S => dn_ (hR S a0 0) fun b25 => al_ (ln b25) (2 : Int32) (hI S b25) fun z26 => lt_ ((9999 : Int32) - z26) fun z27 => wpX8_within ln S z27 (0 : Int32) a1 fun z28 S => lt_ ((2 : Int32) * z28) fun z29 => ∃ n80, LX8_check_80 ln post n80 S a0 z18 z29 (0 : Int32) (0 : Int32)))
abbrev rmX8_check : Room := { frames := 7, cells := 0, slots := 0, locals := 167 }
set_option maxHeartbeats 4000000 in
set_option maxRecDepth 100000 in
theorem ctX8_check {l : Launch} {g : GX} {N : Nat} {ln : Nat → Nat} {S : HC} {a0 : Nat} {a1 : Int32} {post : Int32 → HC → Prop} (hr_a0 : a0 < N) (hk_a0 : kd a0 = 8) (h : wpX8_check ln S a0 a1 post) : Met l yX8_check (Cond.code yX8_check prog_10_method_85_code 6 (Option.some Jvm.ClassFile.FieldType.int) :: gtbl) rmX8_check (va_Pc [.ref (gz g + a0), .int a1] (AtP g N ln S)) (QI g N ln post) 0 0 (gF g) := by
  refine m_of (by decide) (Nat.le_of_ble_eq_true rfl) ?_
  intro p e s m below meth c ls F hr I hl
  have hl : lv_has ls 6 [(0, .ref (gz g + a0)), (1, .int a1)] := hl
  unfold wpX8_check at h
  have hj_208 : ∀ (S : HC) (H : Heap) (locs : List Loc) (ls : Array Slot) (x4 : Int32), BX8_check_208 ln post S x4 → Inv g N ln S s H locs → lv_has ls 6 [(4, .int x4)] → W p l e rmX8_check s m ([.ref (gz g + a0), .int a1] : List Value).toArray below meth c H locs 0 0 (MQ below (QI g N ln post) ([.ref (gz g + a0), .int a1] : List Value).toArray s 0 0 (gF g)) (F0 m 208 ls []) := by
    intro S H locs ls x4 h I hl
    unfold BX8_check_208 at h
    refine lv_iconst (v := 1) F.1 F.2.1 dX8_check_208 (by decide) ?_
    refine lv_iload F.1 F.2.1 dX8_check_209 (lv_at hl 0 rfl) ?_
    refine r_iadd F dX8_check_211 h (fun z1 h => ?_)
    exact r_ireturn F I ⟨hr.1, hr.2.1, trivial⟩ h dX8_check_212
  have hj_181 : ∀ (S : HC) (H : Heap) (locs : List Loc) (ls : Array Slot) (x0 : Nat) (x2 : Int32) (x3 : Int32) (x4 : Int32), x0 < N → kd x0 = 8 → BX8_check_181 ln post S x0 x2 x3 x4 → Inv g N ln S s H locs → lv_has ls 6 [(0, .ref (gz g + x0)), (2, .int x2), (3, .int x3), (4, .int x4)] → W p l e rmX8_check s m ([.ref (gz g + a0), .int a1] : List Value).toArray below meth c H locs 0 0 (MQ below (QI g N ln post) ([.ref (gz g + a0), .int a1] : List Value).toArray s 0 0 (gF g)) (F0 m 181 ls []) := by
    intro S H locs ls x0 x2 x3 x4 hr_x0 hk_x0 h I hl
    unfold BX8_check_181 at h
    refine lv_aload_n F.1 F.2.1 dX8_check_181 rfl (lv_at hl 0 rfl) ?_
    refine r_getN F I hr_x0 hk_x0 fX8_16 (f := 9) rfl (by decide) dX8_check_182 h (fun b2 hr_b2 hk_b2 h => ?_)
    refine lv_aload_n F.1 F.2.1 dX8_check_185 rfl (lv_at hl 0 rfl) ?_
    refine r_getN F I hr_x0 hk_x0 fX8_9 (f := 9) rfl (by decide) dX8_check_186 h (fun b3 hr_b3 hk_b3 h => ?_)
    refine g_V I (run_S (As := [.ref (gz g + b2), .ref (gz g + b3)]) (rest := []) F I kX8_273 (ctX8_copyAll hr_b2 hk_b2 hr_b3 hk_b3 h) ⟨rfl, rfl⟩ ⟨Nat.le_of_ble_eq_true rfl, Nat.le_of_ble_eq_true rfl⟩ rfl hl.1 rfl (Nat.le_of_ble_eq_true rfl) ⟨Nat.le_of_ble_eq_true rfl, Nat.le_of_ble_eq_true rfl⟩ dX8_check_189) (fun S H locs I h => ?_)
    refine lv_iload F.1 F.2.1 dX8_check_192 (lv_at hl 3 rfl) ?_
    refine lv_iload_n F.1 F.2.1 dX8_check_194 rfl (lv_at hl 1 rfl) ?_
    refine r_icmp_ne (tgt := 208) F dX8_check_195 (by decide) h (fun h => ?_) (fun h => ?_)
    · exact hj_208 S _ _ _ x4  h I (lv_sub hl [3] rfl)
    · refine lv_iload F.1 F.2.1 dX8_check_198 (lv_at hl 3 rfl) ?_
      refine lv_iload_n F.1 F.2.1 dX8_check_200 rfl (lv_at hl 2 rfl) ?_
      refine r_icmp_ne (tgt := 208) F dX8_check_201 (by decide) h (fun h => ?_) (fun h => ?_)
      · exact hj_208 S _ _ _ x4  h I (lv_sub hl [3] rfl)
      · refine lv_iconst (v := 0) F.1 F.2.1 dX8_check_204 (by decide) ?_
        refine lv_goto (tgt := 212) F.1 F.2.1 dX8_check_205 (by decide) ?_
        exact r_ireturn F I ⟨hr.1, hr.2.1, trivial⟩ h dX8_check_212
  have hl_80 : ∀ n80 : Nat, ∀ (S : HC) (H : Heap) (locs : List Loc) (ls : Array Slot) (x0 : Nat) (x2 : Int32) (x3 : Int32) (x4 : Int32) (x5 : Int32), x0 < N → kd x0 = 8 → LX8_check_80 ln post n80 S x0 x2 x3 x4 x5 → Inv g N ln S s H locs → lv_has ls 6 [(0, .ref (gz g + x0)), (2, .int x2), (3, .int x3), (4, .int x4), (5, .int x5)] → W p l e rmX8_check s m ([.ref (gz g + a0), .int a1] : List Value).toArray below meth c H locs 0 0 (MQ below (QI g N ln post) ([.ref (gz g + a0), .int a1] : List Value).toArray s 0 0 (gF g)) (F0 m 80 ls []) := by
    intro n80
    induction n80 with
    | zero =>
      intro S H locs ls x0 x2 x3 x4 x5 hr_x0 hk_x0 h I hl
      exact h.elim
    | succ n80 ih =>
      have hk80 := ih
      have hj_172 : ∀ (S : HC) (H : Heap) (locs : List Loc) (ls : Array Slot) (x0 : Nat) (x2 : Int32) (x3 : Int32) (x5 : Int32) (t0 : Int32) (t1 : Int32), x0 < N → kd x0 = 8 → BX8_check_172 ln post (LX8_check_80 ln post n80) S x0 x2 x3 x5 t0 t1 → Inv g N ln S s H locs → lv_has ls 6 [(0, .ref (gz g + x0)), (2, .int x2), (3, .int x3), (5, .int x5)] → W p l e rmX8_check s m ([.ref (gz g + a0), .int a1] : List Value).toArray below meth c H locs 0 0 (MQ below (QI g N ln post) ([.ref (gz g + a0), .int a1] : List Value).toArray s 0 0 (gF g)) (F0 m 172 ls [.int t1, .int t0]) := by
        intro S H locs ls x0 x2 x3 x5 t0 t1 hr_x0 hk_x0 h I hl
        unfold BX8_check_172 at h
        refine r_iadd F dX8_check_172 h (fun z4 h => ?_)
        refine lv_istore (lv' := [(4, .int z4), (0, .ref (gz g + x0)), (2, .int x2), (3, .int x3), (5, .int x5)]) F.1 F.2.1 dX8_check_173 hl (by decide) rfl (fun ls hl => ?_)
        obtain ⟨z5, e_z5, h⟩ := lt_x h
        refine lv_iinc (v := z5) (lv' := [(5, .int z5), (4, .int z4), (0, .ref (gz g + x0)), (2, .int x2), (3, .int x3)]) F.1 F.2.1 dX8_check_175 hl (k := 4) rfl (by rw [e_z5]; rfl) (by decide) rfl (fun ls hl => ?_)
        refine lv_goto (tgt := 80) F.1 F.2.1 dX8_check_178 (by decide) ?_
        exact hk80 S _ _ _ x0 x2 x3 z4 z5 hr_x0 hk_x0 h I (lv_sub hl [2, 3, 4, 1, 0] rfl)
      have hj_171 : ∀ (S : HC) (H : Heap) (locs : List Loc) (ls : Array Slot) (x0 : Nat) (x2 : Int32) (x3 : Int32) (x5 : Int32) (t0 : Int32), x0 < N → kd x0 = 8 → BX8_check_171 ln post (LX8_check_80 ln post n80) S x0 x2 x3 x5 t0 → Inv g N ln S s H locs → lv_has ls 6 [(0, .ref (gz g + x0)), (2, .int x2), (3, .int x3), (5, .int x5)] → W p l e rmX8_check s m ([.ref (gz g + a0), .int a1] : List Value).toArray below meth c H locs 0 0 (MQ below (QI g N ln post) ([.ref (gz g + a0), .int a1] : List Value).toArray s 0 0 (gF g)) (F0 m 171 ls [.int t0]) := by
        intro S H locs ls x0 x2 x3 x5 t0 hr_x0 hk_x0 h I hl
        unfold BX8_check_171 at h
        refine lv_iconst (v := 0) F.1 F.2.1 dX8_check_171 (by decide) ?_
        exact hj_172 S _ _ _ x0 x2 x3 x5 t0 (0 : Int32) hr_x0 hk_x0 h I (lv_sub hl [0, 1, 2, 3] rfl)
      have hj_130 : ∀ (S : HC) (H : Heap) (locs : List Loc) (ls : Array Slot) (x0 : Nat) (x2 : Int32) (x3 : Int32) (x5 : Int32) (t0 : Int32) (t1 : Int32), x0 < N → kd x0 = 8 → BX8_check_130 ln post (LX8_check_80 ln post n80) S x0 x2 x3 x5 t0 t1 → Inv g N ln S s H locs → lv_has ls 6 [(0, .ref (gz g + x0)), (2, .int x2), (3, .int x3), (5, .int x5)] → W p l e rmX8_check s m ([.ref (gz g + a0), .int a1] : List Value).toArray below meth c H locs 0 0 (MQ below (QI g N ln post) ([.ref (gz g + a0), .int a1] : List Value).toArray s 0 0 (gF g)) (F0 m 130 ls [.int t1, .int t0]) := by
        intro S H locs ls x0 x2 x3 x5 t0 t1 hr_x0 hk_x0 h I hl
        unfold BX8_check_130 at h
        refine r_iadd F dX8_check_130 h (fun z6 h => ?_)
        refine lv_istore (lv' := [(4, .int z6), (0, .ref (gz g + x0)), (2, .int x2), (3, .int x3), (5, .int x5)]) F.1 F.2.1 dX8_check_131 hl (by decide) rfl (fun ls hl => ?_)
        refine lv_iload F.1 F.2.1 dX8_check_133 (lv_at hl 0 rfl) ?_
        refine lv_iload F.1 F.2.1 dX8_check_135 (lv_at hl 0 rfl) ?_
        refine lv_iconst (v := 2) F.1 F.2.1 dX8_check_137 (by decide) ?_
        refine lv_iload F.1 F.2.1 dX8_check_138 (lv_at hl 4 rfl) ?_
        refine r_imul F dX8_check_140 h (fun z7 h => ?_)
        refine lv_iconst (v := 1) F.1 F.2.1 dX8_check_141 (by decide) ?_
        refine r_iadd F dX8_check_142 h (fun z8 h => ?_)
        refine r_icmp_ne (tgt := 171) F dX8_check_143 (by decide) h (fun h => ?_) (fun h => ?_)
        · exact hj_171 S _ _ _ x0 x2 x3 x5 z6 hr_x0 hk_x0 h I (lv_sub hl [1, 2, 3, 4] rfl)
        · refine lv_iload F.1 F.2.1 dX8_check_146 (lv_at hl 0 rfl) ?_
          refine lv_iload_n F.1 F.2.1 dX8_check_148 rfl (lv_at hl 2 rfl) ?_
          refine r_icmp_ge (tgt := 171) F dX8_check_149 (by decide) h (fun h => ?_) (fun h => ?_)
          · exact hj_171 S _ _ _ x0 x2 x3 x5 z6 hr_x0 hk_x0 h I (lv_sub hl [1, 2, 3, 4] rfl)
          · refine lv_aload_n F.1 F.2.1 dX8_check_152 rfl (lv_at hl 1 rfl) ?_
            refine r_getN F I hr_x0 hk_x0 fX8_75 (f := 9) rfl (by decide) dX8_check_153 h (fun b9 hr_b9 hk_b9 h => ?_)
            refine lv_iload F.1 F.2.1 dX8_check_156 (lv_at hl 0 rfl) ?_
            refine r_ald F I hr_b9 hk_b9 dX8_check_158 h (fun z10 h => ?_)
            refine lv_aload_n F.1 F.2.1 dX8_check_159 rfl (lv_at hl 1 rfl) ?_
            refine lv_iconst (v := 0) F.1 F.2.1 dX8_check_160 (by decide) ?_
            refine g_I I (run_V (As := [.int (0 : Int32)]) (rest := [.int z10, .int z6]) F I hr_x0 hk_x0 (by decide) kX8_176 (ctX8_allBear hr_x0 hk_x0 h) ⟨rfl, rfl⟩ ⟨Nat.le_of_ble_eq_true rfl, Nat.le_of_ble_eq_true rfl⟩ rfl hl.1 rfl (Nat.le_of_ble_eq_true rfl) ⟨Nat.le_of_ble_eq_true rfl, Nat.le_of_ble_eq_true rfl⟩ dX8_check_161) (fun z11 S H locs I h => ?_)
            refine r_icmp_ne (tgt := 171) F dX8_check_164 (by decide) h (fun h => ?_) (fun h => ?_)
            · exact hj_171 S _ _ _ x0 x2 x3 x5 z6 hr_x0 hk_x0 h I (lv_sub hl [1, 2, 3, 4] rfl)
            · refine lv_iconst (v := 1) F.1 F.2.1 dX8_check_167 (by decide) ?_
              refine lv_goto (tgt := 172) F.1 F.2.1 dX8_check_168 (by decide) ?_
              exact hj_172 S _ _ _ x0 x2 x3 x5 z6 (1 : Int32) hr_x0 hk_x0 h I (lv_sub hl [1, 2, 3, 4] rfl)
      have hj_129 : ∀ (S : HC) (H : Heap) (locs : List Loc) (ls : Array Slot) (x0 : Nat) (x2 : Int32) (x3 : Int32) (x5 : Int32) (t0 : Int32), x0 < N → kd x0 = 8 → BX8_check_129 ln post (LX8_check_80 ln post n80) S x0 x2 x3 x5 t0 → Inv g N ln S s H locs → lv_has ls 6 [(0, .ref (gz g + x0)), (2, .int x2), (3, .int x3), (5, .int x5)] → W p l e rmX8_check s m ([.ref (gz g + a0), .int a1] : List Value).toArray below meth c H locs 0 0 (MQ below (QI g N ln post) ([.ref (gz g + a0), .int a1] : List Value).toArray s 0 0 (gF g)) (F0 m 129 ls [.int t0]) := by
        intro S H locs ls x0 x2 x3 x5 t0 hr_x0 hk_x0 h I hl
        unfold BX8_check_129 at h
        refine lv_iconst (v := 0) F.1 F.2.1 dX8_check_129 (by decide) ?_
        exact hj_130 S _ _ _ x0 x2 x3 x5 t0 (0 : Int32) hr_x0 hk_x0 h I (lv_sub hl [0, 1, 2, 3] rfl)
      intro S H locs ls x0 x2 x3 x4 x5 hr_x0 hk_x0 h I hl
      rw [LX8_check_80] at h
      refine lv_iconst (v := 2) F.1 F.2.1 dX8_check_80 (by decide) ?_
      refine lv_iload F.1 F.2.1 dX8_check_81 (lv_at hl 4 rfl) ?_
      refine r_imul F dX8_check_83 h (fun z12 h => ?_)
      refine lv_iload_n F.1 F.2.1 dX8_check_84 rfl (lv_at hl 2 rfl) ?_
      refine r_icmp_ge (tgt := 181) F dX8_check_85 (by decide) h (fun h => ?_) (fun h => ?_)
      · exact hj_181 S _ _ _ x0 x2 x3 x4 hr_x0 hk_x0 h I (lv_sub hl [0, 1, 2, 3] rfl)
      · refine lv_iload F.1 F.2.1 dX8_check_88 (lv_at hl 3 rfl) ?_
        refine lv_iconst (v := 2) F.1 F.2.1 dX8_check_90 (by decide) ?_
        refine lv_iload F.1 F.2.1 dX8_check_91 (lv_at hl 4 rfl) ?_
        refine r_imul F dX8_check_93 h (fun z13 h => ?_)
        refine r_icmp_ne (tgt := 181) F dX8_check_94 (by decide) h (fun h => ?_) (fun h => ?_)
        · exact hj_181 S _ _ _ x0 x2 x3 x4 hr_x0 hk_x0 h I (lv_sub hl [0, 1, 2, 3] rfl)
        · refine lv_aload_n F.1 F.2.1 dX8_check_97 rfl (lv_at hl 0 rfl) ?_
          refine g_V I (run_V (As := []) (rest := []) F I hr_x0 hk_x0 (by decide) kX8_155 (ctX8_year hr_x0 hk_x0 h) ⟨rfl, rfl⟩ ⟨Nat.le_of_ble_eq_true rfl, Nat.le_of_ble_eq_true rfl⟩ rfl hl.1 rfl (Nat.le_of_ble_eq_true rfl) ⟨Nat.le_of_ble_eq_true rfl, Nat.le_of_ble_eq_true rfl⟩ dX8_check_98) (fun S H locs I h => ?_)
          refine lv_iload F.1 F.2.1 dX8_check_101 (lv_at hl 3 rfl) ?_
          refine lv_iload F.1 F.2.1 dX8_check_103 (lv_at hl 3 rfl) ?_
          refine lv_iload_n F.1 F.2.1 dX8_check_105 rfl (lv_at hl 1 rfl) ?_
          refine r_icmp_ge (tgt := 129) F dX8_check_106 (by decide) h (fun h => ?_) (fun h => ?_)
          · exact hj_129 S _ _ _ x0 x2 x3 x5 x4 hr_x0 hk_x0 h I (lv_sub hl [0, 1, 2, 4] rfl)
          · refine lv_aload_n F.1 F.2.1 dX8_check_109 rfl (lv_at hl 0 rfl) ?_
            refine r_getN F I hr_x0 hk_x0 fX8_75 (f := 9) rfl (by decide) dX8_check_110 h (fun b14 hr_b14 hk_b14 h => ?_)
            refine lv_iload F.1 F.2.1 dX8_check_113 (lv_at hl 3 rfl) ?_
            refine r_ald F I hr_b14 hk_b14 dX8_check_115 h (fun z15 h => ?_)
            refine lv_aload_n F.1 F.2.1 dX8_check_116 rfl (lv_at hl 0 rfl) ?_
            refine r_getN F I hr_x0 hk_x0 fX8_9 (f := 9) rfl (by decide) dX8_check_117 h (fun b16 hr_b16 hk_b16 h => ?_)
            refine lv_iconst (v := 1) F.1 F.2.1 dX8_check_120 (by decide) ?_
            refine r_ald F I hr_b16 hk_b16 dX8_check_121 h (fun z17 h => ?_)
            refine r_icmp_ne (tgt := 129) F dX8_check_122 (by decide) h (fun h => ?_) (fun h => ?_)
            · exact hj_129 S _ _ _ x0 x2 x3 x5 x4 hr_x0 hk_x0 h I (lv_sub hl [0, 1, 2, 4] rfl)
            · refine lv_iconst (v := 1) F.1 F.2.1 dX8_check_125 (by decide) ?_
              refine lv_goto (tgt := 130) F.1 F.2.1 dX8_check_126 (by decide) ?_
              exact hj_130 S _ _ _ x0 x2 x3 x5 x4 (1 : Int32) hr_x0 hk_x0 h I (lv_sub hl [0, 1, 2, 4] rfl)
  refine lv_aload_n F.1 F.2.1 dX8_check_0 rfl (lv_at hl 0 rfl) ?_
  refine r_getI F I hr_a0 hk_a0 fX8_266 rfl dX8_check_1 h (fun z18 h => ?_)
  refine lv_istore_n (lv' := [(2, .int z18), (0, .ref (gz g + a0)), (1, .int a1)]) F.1 F.2.1 dX8_check_4 rfl hl (by decide) rfl (fun ls hl => ?_)
  refine lv_aload_n F.1 F.2.1 dX8_check_5 rfl (lv_at hl 1 rfl) ?_
  refine lv_iconst (v := 0) F.1 F.2.1 dX8_check_6 (by decide) ?_
  refine r_putI F I hr_a0 hk_a0 fX8_266 rfl (Or.inl rfl) ⟨rfl, rfl⟩ dX8_check_7 h (fun S H locs I h => ?_)
  refine lv_iload_n F.1 F.2.1 dX8_check_10 rfl (lv_at hl 2 rfl) ?_
  refine lv_iconst (v := 1) F.1 F.2.1 dX8_check_11 (by decide) ?_
  refine lv_bipush (v := 30) F.1 F.2.1 dX8_check_12 (by decide) ?_
  refine g_I I (run_S (As := [.int a1, .int (1 : Int32), .int (30 : Int32)]) (rest := []) F I kX8_79 (ctX8_in h) ⟨rfl, rfl⟩ ⟨Nat.le_of_ble_eq_true rfl, Nat.le_of_ble_eq_true rfl⟩ rfl hl.1 rfl (Nat.le_of_ble_eq_true rfl) ⟨Nat.le_of_ble_eq_true rfl, Nat.le_of_ble_eq_true rfl⟩ dX8_check_14) (fun z19 S H locs I h => ?_)
  refine r_if_ne (tgt := 23) F dX8_check_17 (by decide) h (fun h => ?_) (fun h => ?_)
  · refine lv_aload_n F.1 F.2.1 dX8_check_23 rfl (lv_at hl 1 rfl) ?_
    refine r_getI F I hr_a0 hk_a0 fX8_269 rfl dX8_check_24 h (fun z20 h => ?_)
    refine r_if_ne (tgt := 34) F dX8_check_27 (by decide) h (fun h => ?_) (fun h => ?_)
    · refine lv_aload_n F.1 F.2.1 dX8_check_34 rfl (lv_at hl 1 rfl) ?_
      refine r_getN F I hr_a0 hk_a0 fX8_9 (f := 9) rfl (by decide) dX8_check_35 h (fun b21 hr_b21 hk_b21 h => ?_)
      refine lv_aload_n F.1 F.2.1 dX8_check_38 rfl (lv_at hl 1 rfl) ?_
      refine r_getN F I hr_a0 hk_a0 fX8_16 (f := 9) rfl (by decide) dX8_check_39 h (fun b22 hr_b22 hk_b22 h => ?_)
      refine g_V I (run_S (As := [.ref (gz g + b21), .ref (gz g + b22)]) (rest := []) F I kX8_273 (ctX8_copyAll hr_b21 hk_b21 hr_b22 hk_b22 h) ⟨rfl, rfl⟩ ⟨Nat.le_of_ble_eq_true rfl, Nat.le_of_ble_eq_true rfl⟩ rfl hl.1 rfl (Nat.le_of_ble_eq_true rfl) ⟨Nat.le_of_ble_eq_true rfl, Nat.le_of_ble_eq_true rfl⟩ dX8_check_42) (fun S H locs I h => ?_)
      refine lv_aload_n F.1 F.2.1 dX8_check_45 rfl (lv_at hl 1 rfl) ?_
      refine r_getN F I hr_a0 hk_a0 fX8_13 (f := 9) rfl (by decide) dX8_check_46 h (fun b23 hr_b23 hk_b23 h => ?_)
      refine lv_aload_n F.1 F.2.1 dX8_check_49 rfl (lv_at hl 1 rfl) ?_
      refine r_getN F I hr_a0 hk_a0 fX8_9 (f := 9) rfl (by decide) dX8_check_50 h (fun b24 hr_b24 hk_b24 h => ?_)
      refine g_V I (run_S (As := [.ref (gz g + b23), .ref (gz g + b24)]) (rest := []) F I kX8_273 (ctX8_copyAll hr_b23 hk_b23 hr_b24 hk_b24 h) ⟨rfl, rfl⟩ ⟨Nat.le_of_ble_eq_true rfl, Nat.le_of_ble_eq_true rfl⟩ rfl hl.1 rfl (Nat.le_of_ble_eq_true rfl) ⟨Nat.le_of_ble_eq_true rfl, Nat.le_of_ble_eq_true rfl⟩ dX8_check_53) (fun S H locs I h => ?_)
      refine lv_iconst (v := 2) F.1 F.2.1 dX8_check_56 (by decide) ?_
      refine lv_sipush (v := 9999) F.1 F.2.1 dX8_check_57 (by decide) ?_
      refine lv_aload_n F.1 F.2.1 dX8_check_60 rfl (lv_at hl 1 rfl) ?_
      refine r_getN F I hr_a0 hk_a0 fX8_9 (f := 9) rfl (by decide) dX8_check_61 h (fun b25 hr_b25 hk_b25 h => ?_)
      refine lv_iconst (v := 2) F.1 F.2.1 dX8_check_64 (by decide) ?_
      refine r_ald F I hr_b25 hk_b25 dX8_check_65 h (fun z26 h => ?_)
      refine r_isub F dX8_check_66 h (fun z27 h => ?_)
      refine lv_iconst (v := 0) F.1 F.2.1 dX8_check_67 (by decide) ?_
      refine lv_iload_n F.1 F.2.1 dX8_check_68 rfl (lv_at hl 2 rfl) ?_
      refine g_I I (run_S (As := [.int z27, .int (0 : Int32), .int a1]) (rest := [.int (2 : Int32)]) F I kX8_117 (ctX8_within h) ⟨rfl, rfl⟩ ⟨Nat.le_of_ble_eq_true rfl, Nat.le_of_ble_eq_true rfl⟩ rfl hl.1 rfl (Nat.le_of_ble_eq_true rfl) ⟨Nat.le_of_ble_eq_true rfl, Nat.le_of_ble_eq_true rfl⟩ dX8_check_69) (fun z28 S H locs I h => ?_)
      refine r_imul F dX8_check_72 h (fun z29 h => ?_)
      refine lv_istore_n (lv' := [(3, .int z29), (2, .int z18), (0, .ref (gz g + a0)), (1, .int a1)]) F.1 F.2.1 dX8_check_73 rfl hl (by decide) rfl (fun ls hl => ?_)
      refine lv_iconst (v := 0) F.1 F.2.1 dX8_check_74 (by decide) ?_
      refine lv_istore (lv' := [(4, .int (0 : Int32)), (3, .int z29), (2, .int z18), (0, .ref (gz g + a0)), (1, .int a1)]) F.1 F.2.1 dX8_check_75 hl (by decide) rfl (fun ls hl => ?_)
      refine lv_iconst (v := 0) F.1 F.2.1 dX8_check_77 (by decide) ?_
      refine lv_istore (lv' := [(5, .int (0 : Int32)), (4, .int (0 : Int32)), (3, .int z29), (2, .int z18), (0, .ref (gz g + a0)), (1, .int a1)]) F.1 F.2.1 dX8_check_78 hl (by decide) rfl (fun ls hl => ?_)
      obtain ⟨n80, h⟩ := h
      exact hl_80 n80 S _ _ _ a0 z18 z29 (0 : Int32) (0 : Int32) hr_a0 hk_a0 h I (lv_sub hl [4, 3, 2, 1, 0] rfl)
    · refine lv_ldcw F.1 F.2.1 F.2.2.2.1 (F.2.2.2.2 _ tw_1367) dX8_check_30 ?_
      exact r_ireturn F I ⟨hr.1, hr.2.1, trivial⟩ h dX8_check_33
  · refine lv_ldc F.1 F.2.1 F.2.2.2.1 (F.2.2.2.2 _ tw_1064) dX8_check_20 ?_
    exact r_ireturn F I ⟨hr.1, hr.2.1, trivial⟩ h dX8_check_22
theorem bdX8_keep_0 : ∀ q ∈ ([(0, .aload_n 0, 1), (1, .getfield 9, 3), (4, .aload_n 0, 1), (5, .getfield 13, 3), (8, .invokestatic 273, 3), (11, .aload_n 0, 1), (12, .iconst 1, 1), (13, .putfield 269, 3), (16, .aload_n 0, 1), (17, .getfield 9, 3), (20, .iconst 1, 1), (21, .iaload, 1), (22, .ireturn, 1)] : List (Nat × Jvm.ClassFile.Instr × Nat)), decode cX8_keep q.1 = .ok q.2 := chk_ok _ 0 _ rfl (by decide +kernel)
theorem dX8_keep_0 : decode cX8_keep 0 = .ok (.aload_n 0, 1) := bdX8_keep_0 (0, .aload_n 0, 1) (List.mem_of_getElem? (i := 0) rfl)
theorem dX8_keep_1 : decode cX8_keep 1 = .ok (.getfield 9, 3) := bdX8_keep_0 (1, .getfield 9, 3) (List.mem_of_getElem? (i := 1) rfl)
theorem dX8_keep_4 : decode cX8_keep 4 = .ok (.aload_n 0, 1) := bdX8_keep_0 (4, .aload_n 0, 1) (List.mem_of_getElem? (i := 2) rfl)
theorem dX8_keep_5 : decode cX8_keep 5 = .ok (.getfield 13, 3) := bdX8_keep_0 (5, .getfield 13, 3) (List.mem_of_getElem? (i := 3) rfl)
theorem dX8_keep_8 : decode cX8_keep 8 = .ok (.invokestatic 273, 3) := bdX8_keep_0 (8, .invokestatic 273, 3) (List.mem_of_getElem? (i := 4) rfl)
theorem dX8_keep_11 : decode cX8_keep 11 = .ok (.aload_n 0, 1) := bdX8_keep_0 (11, .aload_n 0, 1) (List.mem_of_getElem? (i := 5) rfl)
theorem dX8_keep_12 : decode cX8_keep 12 = .ok (.iconst 1, 1) := bdX8_keep_0 (12, .iconst 1, 1) (List.mem_of_getElem? (i := 6) rfl)
theorem dX8_keep_13 : decode cX8_keep 13 = .ok (.putfield 269, 3) := bdX8_keep_0 (13, .putfield 269, 3) (List.mem_of_getElem? (i := 7) rfl)
theorem dX8_keep_16 : decode cX8_keep 16 = .ok (.aload_n 0, 1) := bdX8_keep_0 (16, .aload_n 0, 1) (List.mem_of_getElem? (i := 8) rfl)
theorem dX8_keep_17 : decode cX8_keep 17 = .ok (.getfield 9, 3) := bdX8_keep_0 (17, .getfield 9, 3) (List.mem_of_getElem? (i := 9) rfl)
theorem dX8_keep_20 : decode cX8_keep 20 = .ok (.iconst 1, 1) := bdX8_keep_0 (20, .iconst 1, 1) (List.mem_of_getElem? (i := 10) rfl)
theorem dX8_keep_21 : decode cX8_keep 21 = .ok (.iaload, 1) := bdX8_keep_0 (21, .iaload, 1) (List.mem_of_getElem? (i := 11) rfl)
theorem dX8_keep_22 : decode cX8_keep 22 = .ok (.ireturn, 1) := bdX8_keep_0 (22, .ireturn, 1) (List.mem_of_getElem? (i := 12) rfl)
def wpX8_keep (ln : Nat → Nat) (S : HC) (a0 : Nat) (post : Int32 → HC → Prop) : Prop := dn_ (hR S a0 0) fun b1 => dn_ (hR S a0 1) fun b2 => wpX8_copyAll ln S b1 b2 fun S => lt_ (sI S a0 3 (1 : Int32)) fun S => dn_ (hR S a0 0) fun b3 => al_ (ln b3) (1 : Int32) (hI S b3) fun z4 => post z4 S
abbrev rmX8_keep : Room := { frames := 1, cells := 0, slots := 0, locals := 22 }
set_option maxHeartbeats 4000000 in
set_option maxRecDepth 100000 in
theorem ctX8_keep {l : Launch} {g : GX} {N : Nat} {ln : Nat → Nat} {S : HC} {a0 : Nat} {post : Int32 → HC → Prop} (hr_a0 : a0 < N) (hk_a0 : kd a0 = 8) (h : wpX8_keep ln S a0 post) : Met l yX8_keep (Cond.code yX8_keep prog_10_method_86_code 1 (Option.some Jvm.ClassFile.FieldType.int) :: gtbl) rmX8_keep (va_Pc [.ref (gz g + a0)] (AtP g N ln S)) (QI g N ln post) 0 0 (gF g) := by
  refine m_of (by decide) (Nat.le_of_ble_eq_true rfl) ?_
  intro p e s m below meth c ls F hr I hl
  have hl : lv_has ls 1 [(0, .ref (gz g + a0))] := hl
  unfold wpX8_keep at h
  refine lv_aload_n F.1 F.2.1 dX8_keep_0 rfl (lv_at hl 0 rfl) ?_
  refine r_getN F I hr_a0 hk_a0 fX8_9 (f := 9) rfl (by decide) dX8_keep_1 h (fun b1 hr_b1 hk_b1 h => ?_)
  refine lv_aload_n F.1 F.2.1 dX8_keep_4 rfl (lv_at hl 0 rfl) ?_
  refine r_getN F I hr_a0 hk_a0 fX8_13 (f := 9) rfl (by decide) dX8_keep_5 h (fun b2 hr_b2 hk_b2 h => ?_)
  refine g_V I (run_S (As := [.ref (gz g + b1), .ref (gz g + b2)]) (rest := []) F I kX8_273 (ctX8_copyAll hr_b1 hk_b1 hr_b2 hk_b2 h) ⟨rfl, rfl⟩ ⟨Nat.le_of_ble_eq_true rfl, Nat.le_of_ble_eq_true rfl⟩ rfl hl.1 rfl (Nat.le_of_ble_eq_true rfl) ⟨Nat.le_of_ble_eq_true rfl, Nat.le_of_ble_eq_true rfl⟩ dX8_keep_8) (fun S H locs I h => ?_)
  refine lv_aload_n F.1 F.2.1 dX8_keep_11 rfl (lv_at hl 0 rfl) ?_
  refine lv_iconst (v := 1) F.1 F.2.1 dX8_keep_12 (by decide) ?_
  refine r_putI F I hr_a0 hk_a0 fX8_269 rfl (Or.inl rfl) ⟨by decide, by decide⟩ dX8_keep_13 h (fun S H locs I h => ?_)
  refine lv_aload_n F.1 F.2.1 dX8_keep_16 rfl (lv_at hl 0 rfl) ?_
  refine r_getN F I hr_a0 hk_a0 fX8_9 (f := 9) rfl (by decide) dX8_keep_17 h (fun b3 hr_b3 hk_b3 h => ?_)
  refine lv_iconst (v := 1) F.1 F.2.1 dX8_keep_20 (by decide) ?_
  refine r_ald F I hr_b3 hk_b3 dX8_keep_21 h (fun z4 h => ?_)
  exact r_ireturn F I ⟨hr.1, hr.2.1, trivial⟩ h dX8_keep_22
theorem bdX8_back_0 : ∀ q ∈ ([(0, .aload_n 0, 1), (1, .getfield 269, 3), (4, .ifCond .ne 7, 3), (7, .ldc_w 265, 3), (10, .ireturn, 1), (11, .aload_n 0, 1), (12, .getfield 13, 3), (15, .aload_n 0, 1), (16, .getfield 9, 3), (19, .invokestatic 273, 3), (22, .aload_n 0, 1), (23, .getfield 9, 3), (26, .iconst 1, 1), (27, .iaload, 1), (28, .ireturn, 1)] : List (Nat × Jvm.ClassFile.Instr × Nat)), decode cX8_back q.1 = .ok q.2 := chk_ok _ 0 _ rfl (by decide +kernel)
theorem dX8_back_0 : decode cX8_back 0 = .ok (.aload_n 0, 1) := bdX8_back_0 (0, .aload_n 0, 1) (List.mem_of_getElem? (i := 0) rfl)
theorem dX8_back_1 : decode cX8_back 1 = .ok (.getfield 269, 3) := bdX8_back_0 (1, .getfield 269, 3) (List.mem_of_getElem? (i := 1) rfl)
theorem dX8_back_4 : decode cX8_back 4 = .ok (.ifCond .ne 7, 3) := bdX8_back_0 (4, .ifCond .ne 7, 3) (List.mem_of_getElem? (i := 2) rfl)
theorem dX8_back_7 : decode cX8_back 7 = .ok (.ldc_w 265, 3) := bdX8_back_0 (7, .ldc_w 265, 3) (List.mem_of_getElem? (i := 3) rfl)
theorem dX8_back_10 : decode cX8_back 10 = .ok (.ireturn, 1) := bdX8_back_0 (10, .ireturn, 1) (List.mem_of_getElem? (i := 4) rfl)
theorem dX8_back_11 : decode cX8_back 11 = .ok (.aload_n 0, 1) := bdX8_back_0 (11, .aload_n 0, 1) (List.mem_of_getElem? (i := 5) rfl)
theorem dX8_back_12 : decode cX8_back 12 = .ok (.getfield 13, 3) := bdX8_back_0 (12, .getfield 13, 3) (List.mem_of_getElem? (i := 6) rfl)
theorem dX8_back_15 : decode cX8_back 15 = .ok (.aload_n 0, 1) := bdX8_back_0 (15, .aload_n 0, 1) (List.mem_of_getElem? (i := 7) rfl)
theorem dX8_back_16 : decode cX8_back 16 = .ok (.getfield 9, 3) := bdX8_back_0 (16, .getfield 9, 3) (List.mem_of_getElem? (i := 8) rfl)
theorem dX8_back_19 : decode cX8_back 19 = .ok (.invokestatic 273, 3) := bdX8_back_0 (19, .invokestatic 273, 3) (List.mem_of_getElem? (i := 9) rfl)
theorem dX8_back_22 : decode cX8_back 22 = .ok (.aload_n 0, 1) := bdX8_back_0 (22, .aload_n 0, 1) (List.mem_of_getElem? (i := 10) rfl)
theorem dX8_back_23 : decode cX8_back 23 = .ok (.getfield 9, 3) := bdX8_back_0 (23, .getfield 9, 3) (List.mem_of_getElem? (i := 11) rfl)
theorem dX8_back_26 : decode cX8_back 26 = .ok (.iconst 1, 1) := bdX8_back_0 (26, .iconst 1, 1) (List.mem_of_getElem? (i := 12) rfl)
theorem dX8_back_27 : decode cX8_back 27 = .ok (.iaload, 1) := bdX8_back_0 (27, .iaload, 1) (List.mem_of_getElem? (i := 13) rfl)
theorem dX8_back_28 : decode cX8_back 28 = .ok (.ireturn, 1) := bdX8_back_0 (28, .ireturn, 1) (List.mem_of_getElem? (i := 14) rfl)
def wpX8_back (ln : Nat → Nat) (S : HC) (a0 : Nat) (post : Int32 → HC → Prop) : Prop := lt_ (hI S a0 3) fun z1 => if z1 = 0 then (post (-1000000002 : Int32) S) else (dn_ (hR S a0 1) fun b2 => dn_ (hR S a0 0) fun b3 => wpX8_copyAll ln S b2 b3 fun S => dn_ (hR S a0 0) fun b4 => al_ (ln b4) (1 : Int32) (hI S b4) fun z5 => post z5 S)
abbrev rmX8_back : Room := { frames := 1, cells := 0, slots := 0, locals := 22 }
set_option maxHeartbeats 4000000 in
set_option maxRecDepth 100000 in
theorem ctX8_back {l : Launch} {g : GX} {N : Nat} {ln : Nat → Nat} {S : HC} {a0 : Nat} {post : Int32 → HC → Prop} (hr_a0 : a0 < N) (hk_a0 : kd a0 = 8) (h : wpX8_back ln S a0 post) : Met l yX8_back (Cond.code yX8_back prog_10_method_87_code 1 (Option.some Jvm.ClassFile.FieldType.int) :: gtbl) rmX8_back (va_Pc [.ref (gz g + a0)] (AtP g N ln S)) (QI g N ln post) 0 0 (gF g) := by
  refine m_of (by decide) (Nat.le_of_ble_eq_true rfl) ?_
  intro p e s m below meth c ls F hr I hl
  have hl : lv_has ls 1 [(0, .ref (gz g + a0))] := hl
  unfold wpX8_back at h
  refine lv_aload_n F.1 F.2.1 dX8_back_0 rfl (lv_at hl 0 rfl) ?_
  refine r_getI F I hr_a0 hk_a0 fX8_269 rfl dX8_back_1 h (fun z1 h => ?_)
  refine r_if_ne (tgt := 11) F dX8_back_4 (by decide) h (fun h => ?_) (fun h => ?_)
  · refine lv_aload_n F.1 F.2.1 dX8_back_11 rfl (lv_at hl 0 rfl) ?_
    refine r_getN F I hr_a0 hk_a0 fX8_13 (f := 9) rfl (by decide) dX8_back_12 h (fun b2 hr_b2 hk_b2 h => ?_)
    refine lv_aload_n F.1 F.2.1 dX8_back_15 rfl (lv_at hl 0 rfl) ?_
    refine r_getN F I hr_a0 hk_a0 fX8_9 (f := 9) rfl (by decide) dX8_back_16 h (fun b3 hr_b3 hk_b3 h => ?_)
    refine g_V I (run_S (As := [.ref (gz g + b2), .ref (gz g + b3)]) (rest := []) F I kX8_273 (ctX8_copyAll hr_b2 hk_b2 hr_b3 hk_b3 h) ⟨rfl, rfl⟩ ⟨Nat.le_of_ble_eq_true rfl, Nat.le_of_ble_eq_true rfl⟩ rfl hl.1 rfl (Nat.le_of_ble_eq_true rfl) ⟨Nat.le_of_ble_eq_true rfl, Nat.le_of_ble_eq_true rfl⟩ dX8_back_19) (fun S H locs I h => ?_)
    refine lv_aload_n F.1 F.2.1 dX8_back_22 rfl (lv_at hl 0 rfl) ?_
    refine r_getN F I hr_a0 hk_a0 fX8_9 (f := 9) rfl (by decide) dX8_back_23 h (fun b4 hr_b4 hk_b4 h => ?_)
    refine lv_iconst (v := 1) F.1 F.2.1 dX8_back_26 (by decide) ?_
    refine r_ald F I hr_b4 hk_b4 dX8_back_27 h (fun z5 h => ?_)
    exact r_ireturn F I ⟨hr.1, hr.2.1, trivial⟩ h dX8_back_28
  · refine lv_ldcw F.1 F.2.1 F.2.2.2.1 (F.2.2.2.2 _ tw_1367) dX8_back_7 ?_
    exact r_ireturn F I ⟨hr.1, hr.2.1, trivial⟩ h dX8_back_10
theorem bdX8_founders_0 : ∀ q ∈ ([(0, .iconst 0, 1), (1, .istore_n 1, 1), (2, .iconst 0, 1), (3, .istore_n 2, 1), (4, .iload_n 2, 1), (5, .aload_n 0, 1), (6, .getfield 9, 3), (9, .iconst 1, 1), (10, .iaload, 1), (11, .if_icmp .ge 26, 3), (14, .iload_n 1, 1), (15, .aload_n 0, 1), (16, .iload_n 2, 1), (17, .iconst 1, 1), (18, .invokevirtual 87, 3), (21, .ifCond .ge 7, 3), (24, .iconst 1, 1), (25, .goto 4, 3), (28, .iconst 0, 1), (29, .iadd, 1), (30, .istore_n 1, 1), (31, .iinc 2 1, 3), (34, .goto (-30), 3), (37, .iload_n 1, 1), (38, .ireturn, 1)] : List (Nat × Jvm.ClassFile.Instr × Nat)), decode cX8_founders q.1 = .ok q.2 := chk_ok _ 0 _ rfl (by decide +kernel)
theorem dX8_founders_0 : decode cX8_founders 0 = .ok (.iconst 0, 1) := bdX8_founders_0 (0, .iconst 0, 1) (List.mem_of_getElem? (i := 0) rfl)
theorem dX8_founders_1 : decode cX8_founders 1 = .ok (.istore_n 1, 1) := bdX8_founders_0 (1, .istore_n 1, 1) (List.mem_of_getElem? (i := 1) rfl)
theorem dX8_founders_2 : decode cX8_founders 2 = .ok (.iconst 0, 1) := bdX8_founders_0 (2, .iconst 0, 1) (List.mem_of_getElem? (i := 2) rfl)
theorem dX8_founders_3 : decode cX8_founders 3 = .ok (.istore_n 2, 1) := bdX8_founders_0 (3, .istore_n 2, 1) (List.mem_of_getElem? (i := 3) rfl)
theorem dX8_founders_4 : decode cX8_founders 4 = .ok (.iload_n 2, 1) := bdX8_founders_0 (4, .iload_n 2, 1) (List.mem_of_getElem? (i := 4) rfl)
theorem dX8_founders_5 : decode cX8_founders 5 = .ok (.aload_n 0, 1) := bdX8_founders_0 (5, .aload_n 0, 1) (List.mem_of_getElem? (i := 5) rfl)
theorem dX8_founders_6 : decode cX8_founders 6 = .ok (.getfield 9, 3) := bdX8_founders_0 (6, .getfield 9, 3) (List.mem_of_getElem? (i := 6) rfl)
theorem dX8_founders_9 : decode cX8_founders 9 = .ok (.iconst 1, 1) := bdX8_founders_0 (9, .iconst 1, 1) (List.mem_of_getElem? (i := 7) rfl)
theorem dX8_founders_10 : decode cX8_founders 10 = .ok (.iaload, 1) := bdX8_founders_0 (10, .iaload, 1) (List.mem_of_getElem? (i := 8) rfl)
theorem dX8_founders_11 : decode cX8_founders 11 = .ok (.if_icmp .ge 26, 3) := bdX8_founders_0 (11, .if_icmp .ge 26, 3) (List.mem_of_getElem? (i := 9) rfl)
theorem dX8_founders_14 : decode cX8_founders 14 = .ok (.iload_n 1, 1) := bdX8_founders_0 (14, .iload_n 1, 1) (List.mem_of_getElem? (i := 10) rfl)
theorem dX8_founders_15 : decode cX8_founders 15 = .ok (.aload_n 0, 1) := bdX8_founders_0 (15, .aload_n 0, 1) (List.mem_of_getElem? (i := 11) rfl)
theorem dX8_founders_16 : decode cX8_founders 16 = .ok (.iload_n 2, 1) := bdX8_founders_0 (16, .iload_n 2, 1) (List.mem_of_getElem? (i := 12) rfl)
theorem dX8_founders_17 : decode cX8_founders 17 = .ok (.iconst 1, 1) := bdX8_founders_0 (17, .iconst 1, 1) (List.mem_of_getElem? (i := 13) rfl)
theorem dX8_founders_18 : decode cX8_founders 18 = .ok (.invokevirtual 87, 3) := bdX8_founders_0 (18, .invokevirtual 87, 3) (List.mem_of_getElem? (i := 14) rfl)
theorem dX8_founders_21 : decode cX8_founders 21 = .ok (.ifCond .ge 7, 3) := bdX8_founders_0 (21, .ifCond .ge 7, 3) (List.mem_of_getElem? (i := 15) rfl)
theorem dX8_founders_24 : decode cX8_founders 24 = .ok (.iconst 1, 1) := bdX8_founders_0 (24, .iconst 1, 1) (List.mem_of_getElem? (i := 16) rfl)
theorem dX8_founders_25 : decode cX8_founders 25 = .ok (.goto 4, 3) := bdX8_founders_0 (25, .goto 4, 3) (List.mem_of_getElem? (i := 17) rfl)
theorem dX8_founders_28 : decode cX8_founders 28 = .ok (.iconst 0, 1) := bdX8_founders_0 (28, .iconst 0, 1) (List.mem_of_getElem? (i := 18) rfl)
theorem dX8_founders_29 : decode cX8_founders 29 = .ok (.iadd, 1) := bdX8_founders_0 (29, .iadd, 1) (List.mem_of_getElem? (i := 19) rfl)
theorem dX8_founders_30 : decode cX8_founders 30 = .ok (.istore_n 1, 1) := bdX8_founders_0 (30, .istore_n 1, 1) (List.mem_of_getElem? (i := 20) rfl)
theorem dX8_founders_31 : decode cX8_founders 31 = .ok (.iinc 2 1, 3) := bdX8_founders_0 (31, .iinc 2 1, 3) (List.mem_of_getElem? (i := 21) rfl)
theorem dX8_founders_34 : decode cX8_founders 34 = .ok (.goto (-30), 3) := bdX8_founders_0 (34, .goto (-30), 3) (List.mem_of_getElem? (i := 22) rfl)
theorem dX8_founders_37 : decode cX8_founders 37 = .ok (.iload_n 1, 1) := bdX8_founders_0 (37, .iload_n 1, 1) (List.mem_of_getElem? (i := 23) rfl)
theorem dX8_founders_38 : decode cX8_founders 38 = .ok (.ireturn, 1) := bdX8_founders_0 (38, .ireturn, 1) (List.mem_of_getElem? (i := 24) rfl)
def BX8_founders_29 (ln : Nat → Nat) (post : Int32 → HC → Prop) (K4 : HC → Nat → Int32 → Int32 → Prop) (S : HC) (x0 : Nat) (x2 : Int32) (t0 : Int32) (t1 : Int32) : Prop := lt_ (t0 + t1) fun z1 => lt_ (x2 + (1 : Int32)) fun z2 => K4 S x0 z1 z2
def LX8_founders_4 (ln : Nat → Nat) (post : Int32 → HC → Prop) : Nat → HC → Nat → Int32 → Int32 → Prop
  | 0 => fun _ _ _ _ => False
  | n4 + 1 => fun S x0 x1 x2 => dn_ (hR S x0 0) fun b3 => al_ (ln b3) (1 : Int32) (hI S b3) fun z4 => if z4 ≤ x2 then (post x1 S) else (wpX8_of ln S x0 x2 (1 : Int32) fun z5 S => if 0 ≤ z5 then (BX8_founders_29 ln post (LX8_founders_4 ln post n4) S x0 x2 x1 (0 : Int32)) else (BX8_founders_29 ln post (LX8_founders_4 ln post n4) S x0 x2 x1 (1 : Int32)))
def wpX8_founders (ln : Nat → Nat) (S : HC) (a0 : Nat) (post : Int32 → HC → Prop) : Prop := ∃ n4, LX8_founders_4 ln post n4 S a0 (0 : Int32) (0 : Int32)
abbrev rmX8_founders : Room := { frames := 1, cells := 0, slots := 0, locals := 22 }
set_option maxHeartbeats 4000000 in
set_option maxRecDepth 100000 in
theorem ctX8_founders {l : Launch} {g : GX} {N : Nat} {ln : Nat → Nat} {S : HC} {a0 : Nat} {post : Int32 → HC → Prop} (hr_a0 : a0 < N) (hk_a0 : kd a0 = 8) (h : wpX8_founders ln S a0 post) : Met l yX8_founders (Cond.code yX8_founders prog_10_method_88_code 3 (Option.some Jvm.ClassFile.FieldType.int) :: gtbl) rmX8_founders (va_Pc [.ref (gz g + a0)] (AtP g N ln S)) (QI g N ln post) 0 0 (gF g) := by
  refine m_of (by decide) (Nat.le_of_ble_eq_true rfl) ?_
  intro p e s m below meth c ls F hr I hl
  have hl : lv_has ls 3 [(0, .ref (gz g + a0))] := hl
  unfold wpX8_founders at h
  have hl_4 : ∀ n4 : Nat, ∀ (S : HC) (H : Heap) (locs : List Loc) (ls : Array Slot) (x0 : Nat) (x1 : Int32) (x2 : Int32), x0 < N → kd x0 = 8 → LX8_founders_4 ln post n4 S x0 x1 x2 → Inv g N ln S s H locs → lv_has ls 3 [(0, .ref (gz g + x0)), (1, .int x1), (2, .int x2)] → W p l e rmX8_founders s m ([.ref (gz g + a0)] : List Value).toArray below meth c H locs 0 0 (MQ below (QI g N ln post) ([.ref (gz g + a0)] : List Value).toArray s 0 0 (gF g)) (F0 m 4 ls []) := by
    intro n4
    induction n4 with
    | zero =>
      intro S H locs ls x0 x1 x2 hr_x0 hk_x0 h I hl
      exact h.elim
    | succ n4 ih =>
      have hk4 := ih
      have hj_29 : ∀ (S : HC) (H : Heap) (locs : List Loc) (ls : Array Slot) (x0 : Nat) (x2 : Int32) (t0 : Int32) (t1 : Int32), x0 < N → kd x0 = 8 → BX8_founders_29 ln post (LX8_founders_4 ln post n4) S x0 x2 t0 t1 → Inv g N ln S s H locs → lv_has ls 3 [(0, .ref (gz g + x0)), (2, .int x2)] → W p l e rmX8_founders s m ([.ref (gz g + a0)] : List Value).toArray below meth c H locs 0 0 (MQ below (QI g N ln post) ([.ref (gz g + a0)] : List Value).toArray s 0 0 (gF g)) (F0 m 29 ls [.int t1, .int t0]) := by
        intro S H locs ls x0 x2 t0 t1 hr_x0 hk_x0 h I hl
        unfold BX8_founders_29 at h
        refine r_iadd F dX8_founders_29 h (fun z1 h => ?_)
        refine lv_istore_n (lv' := [(1, .int z1), (0, .ref (gz g + x0)), (2, .int x2)]) F.1 F.2.1 dX8_founders_30 rfl hl (by decide) rfl (fun ls hl => ?_)
        obtain ⟨z2, e_z2, h⟩ := lt_x h
        refine lv_iinc (v := z2) (lv' := [(2, .int z2), (1, .int z1), (0, .ref (gz g + x0))]) F.1 F.2.1 dX8_founders_31 hl (k := 2) rfl (by rw [e_z2]; rfl) (by decide) rfl (fun ls hl => ?_)
        refine lv_goto (tgt := 4) F.1 F.2.1 dX8_founders_34 (by decide) ?_
        exact hk4 S _ _ _ x0 z1 z2 hr_x0 hk_x0 h I (lv_sub hl [2, 1, 0] rfl)
      intro S H locs ls x0 x1 x2 hr_x0 hk_x0 h I hl
      rw [LX8_founders_4] at h
      refine lv_iload_n F.1 F.2.1 dX8_founders_4 rfl (lv_at hl 2 rfl) ?_
      refine lv_aload_n F.1 F.2.1 dX8_founders_5 rfl (lv_at hl 0 rfl) ?_
      refine r_getN F I hr_x0 hk_x0 fX8_9 (f := 9) rfl (by decide) dX8_founders_6 h (fun b3 hr_b3 hk_b3 h => ?_)
      refine lv_iconst (v := 1) F.1 F.2.1 dX8_founders_9 (by decide) ?_
      refine r_ald F I hr_b3 hk_b3 dX8_founders_10 h (fun z4 h => ?_)
      refine r_icmp_ge (tgt := 37) F dX8_founders_11 (by decide) h (fun h => ?_) (fun h => ?_)
      · refine lv_iload_n F.1 F.2.1 dX8_founders_37 rfl (lv_at hl 1 rfl) ?_
        exact r_ireturn F I ⟨hr.1, hr.2.1, trivial⟩ h dX8_founders_38
      · refine lv_iload_n F.1 F.2.1 dX8_founders_14 rfl (lv_at hl 1 rfl) ?_
        refine lv_aload_n F.1 F.2.1 dX8_founders_15 rfl (lv_at hl 0 rfl) ?_
        refine lv_iload_n F.1 F.2.1 dX8_founders_16 rfl (lv_at hl 2 rfl) ?_
        refine lv_iconst (v := 1) F.1 F.2.1 dX8_founders_17 (by decide) ?_
        refine g_I I (run_V (As := [.int x2, .int (1 : Int32)]) (rest := [.int x1]) F I hr_x0 hk_x0 (by decide) kX8_87 (ctX8_of hr_x0 hk_x0 h) ⟨rfl, rfl⟩ ⟨Nat.le_of_ble_eq_true rfl, Nat.le_of_ble_eq_true rfl⟩ rfl hl.1 rfl (Nat.le_of_ble_eq_true rfl) ⟨Nat.le_of_ble_eq_true rfl, Nat.le_of_ble_eq_true rfl⟩ dX8_founders_18) (fun z5 S H locs I h => ?_)
        refine r_if_ge (tgt := 28) F dX8_founders_21 (by decide) h (fun h => ?_) (fun h => ?_)
        · refine lv_iconst (v := 0) F.1 F.2.1 dX8_founders_28 (by decide) ?_
          exact hj_29 S _ _ _ x0 x2 x1 (0 : Int32) hr_x0 hk_x0 h I (lv_sub hl [0, 2] rfl)
        · refine lv_iconst (v := 1) F.1 F.2.1 dX8_founders_24 (by decide) ?_
          refine lv_goto (tgt := 29) F.1 F.2.1 dX8_founders_25 (by decide) ?_
          exact hj_29 S _ _ _ x0 x2 x1 (1 : Int32) hr_x0 hk_x0 h I (lv_sub hl [0, 2] rfl)
  refine lv_iconst (v := 0) F.1 F.2.1 dX8_founders_0 (by decide) ?_
  refine lv_istore_n (lv' := [(1, .int (0 : Int32)), (0, .ref (gz g + a0))]) F.1 F.2.1 dX8_founders_1 rfl hl (by decide) rfl (fun ls hl => ?_)
  refine lv_iconst (v := 0) F.1 F.2.1 dX8_founders_2 (by decide) ?_
  refine lv_istore_n (lv' := [(2, .int (0 : Int32)), (1, .int (0 : Int32)), (0, .ref (gz g + a0))]) F.1 F.2.1 dX8_founders_3 rfl hl (by decide) rfl (fun ls hl => ?_)
  obtain ⟨n4, h⟩ := h
  exact hl_4 n4 S _ _ _ a0 (0 : Int32) (0 : Int32) hr_a0 hk_a0 h I (lv_sub hl [2, 1, 0] rfl)
theorem bdX8_count_0 : ∀ q ∈ ([(0, .iload_n 1, 1), (48, .aload_n 0, 1), (49, .getfield 9, 3), (52, .iconst 1, 1), (53, .iaload, 1), (54, .ireturn, 1), (55, .aload_n 0, 1), (56, .getfield 9, 3), (59, .iconst 2, 1), (60, .iaload, 1), (61, .ireturn, 1), (62, .aload_n 0, 1), (63, .getfield 9, 3), (66, .iconst 3, 1), (67, .iaload, 1), (68, .ireturn, 1), (69, .aload_n 0, 1), (70, .invokevirtual 277, 3), (73, .ireturn, 1), (74, .aload_n 0, 1), (75, .getfield 9, 3), (78, .iconst 4, 1), (79, .iaload, 1), (80, .ireturn, 1), (81, .aload_n 0, 1), (82, .getfield 266, 3), (85, .ireturn, 1), (86, .aload_n 0, 1), (87, .getfield 190, 3), (90, .ireturn, 1), (91, .aload_n 0, 1), (92, .getfield 9, 3), (95, .iconst 0, 1), (96, .iaload, 1), (97, .ireturn, 1), (98, .ldc 98, 2), (100, .ireturn, 1)] : List (Nat × Jvm.ClassFile.Instr × Nat)), decode cX8_count q.1 = .ok q.2 := chk_ok _ 0 _ rfl (by decide +kernel)
theorem dX8_count_0 : decode cX8_count 0 = .ok (.iload_n 1, 1) := bdX8_count_0 (0, .iload_n 1, 1) (List.mem_of_getElem? (i := 0) rfl)
theorem dX8_count_48 : decode cX8_count 48 = .ok (.aload_n 0, 1) := bdX8_count_0 (48, .aload_n 0, 1) (List.mem_of_getElem? (i := 1) rfl)
theorem dX8_count_49 : decode cX8_count 49 = .ok (.getfield 9, 3) := bdX8_count_0 (49, .getfield 9, 3) (List.mem_of_getElem? (i := 2) rfl)
theorem dX8_count_52 : decode cX8_count 52 = .ok (.iconst 1, 1) := bdX8_count_0 (52, .iconst 1, 1) (List.mem_of_getElem? (i := 3) rfl)
theorem dX8_count_53 : decode cX8_count 53 = .ok (.iaload, 1) := bdX8_count_0 (53, .iaload, 1) (List.mem_of_getElem? (i := 4) rfl)
theorem dX8_count_54 : decode cX8_count 54 = .ok (.ireturn, 1) := bdX8_count_0 (54, .ireturn, 1) (List.mem_of_getElem? (i := 5) rfl)
theorem dX8_count_55 : decode cX8_count 55 = .ok (.aload_n 0, 1) := bdX8_count_0 (55, .aload_n 0, 1) (List.mem_of_getElem? (i := 6) rfl)
theorem dX8_count_56 : decode cX8_count 56 = .ok (.getfield 9, 3) := bdX8_count_0 (56, .getfield 9, 3) (List.mem_of_getElem? (i := 7) rfl)
theorem dX8_count_59 : decode cX8_count 59 = .ok (.iconst 2, 1) := bdX8_count_0 (59, .iconst 2, 1) (List.mem_of_getElem? (i := 8) rfl)
theorem dX8_count_60 : decode cX8_count 60 = .ok (.iaload, 1) := bdX8_count_0 (60, .iaload, 1) (List.mem_of_getElem? (i := 9) rfl)
theorem dX8_count_61 : decode cX8_count 61 = .ok (.ireturn, 1) := bdX8_count_0 (61, .ireturn, 1) (List.mem_of_getElem? (i := 10) rfl)
theorem dX8_count_62 : decode cX8_count 62 = .ok (.aload_n 0, 1) := bdX8_count_0 (62, .aload_n 0, 1) (List.mem_of_getElem? (i := 11) rfl)
theorem dX8_count_63 : decode cX8_count 63 = .ok (.getfield 9, 3) := bdX8_count_0 (63, .getfield 9, 3) (List.mem_of_getElem? (i := 12) rfl)
theorem dX8_count_66 : decode cX8_count 66 = .ok (.iconst 3, 1) := bdX8_count_0 (66, .iconst 3, 1) (List.mem_of_getElem? (i := 13) rfl)
theorem dX8_count_67 : decode cX8_count 67 = .ok (.iaload, 1) := bdX8_count_0 (67, .iaload, 1) (List.mem_of_getElem? (i := 14) rfl)
theorem dX8_count_68 : decode cX8_count 68 = .ok (.ireturn, 1) := bdX8_count_0 (68, .ireturn, 1) (List.mem_of_getElem? (i := 15) rfl)
theorem dX8_count_69 : decode cX8_count 69 = .ok (.aload_n 0, 1) := bdX8_count_0 (69, .aload_n 0, 1) (List.mem_of_getElem? (i := 16) rfl)
theorem dX8_count_70 : decode cX8_count 70 = .ok (.invokevirtual 277, 3) := bdX8_count_0 (70, .invokevirtual 277, 3) (List.mem_of_getElem? (i := 17) rfl)
theorem dX8_count_73 : decode cX8_count 73 = .ok (.ireturn, 1) := bdX8_count_0 (73, .ireturn, 1) (List.mem_of_getElem? (i := 18) rfl)
theorem dX8_count_74 : decode cX8_count 74 = .ok (.aload_n 0, 1) := bdX8_count_0 (74, .aload_n 0, 1) (List.mem_of_getElem? (i := 19) rfl)
theorem dX8_count_75 : decode cX8_count 75 = .ok (.getfield 9, 3) := bdX8_count_0 (75, .getfield 9, 3) (List.mem_of_getElem? (i := 20) rfl)
theorem dX8_count_78 : decode cX8_count 78 = .ok (.iconst 4, 1) := bdX8_count_0 (78, .iconst 4, 1) (List.mem_of_getElem? (i := 21) rfl)
theorem dX8_count_79 : decode cX8_count 79 = .ok (.iaload, 1) := bdX8_count_0 (79, .iaload, 1) (List.mem_of_getElem? (i := 22) rfl)
theorem dX8_count_80 : decode cX8_count 80 = .ok (.ireturn, 1) := bdX8_count_0 (80, .ireturn, 1) (List.mem_of_getElem? (i := 23) rfl)
theorem dX8_count_81 : decode cX8_count 81 = .ok (.aload_n 0, 1) := bdX8_count_0 (81, .aload_n 0, 1) (List.mem_of_getElem? (i := 24) rfl)
theorem dX8_count_82 : decode cX8_count 82 = .ok (.getfield 266, 3) := bdX8_count_0 (82, .getfield 266, 3) (List.mem_of_getElem? (i := 25) rfl)
theorem dX8_count_85 : decode cX8_count 85 = .ok (.ireturn, 1) := bdX8_count_0 (85, .ireturn, 1) (List.mem_of_getElem? (i := 26) rfl)
theorem dX8_count_86 : decode cX8_count 86 = .ok (.aload_n 0, 1) := bdX8_count_0 (86, .aload_n 0, 1) (List.mem_of_getElem? (i := 27) rfl)
theorem dX8_count_87 : decode cX8_count 87 = .ok (.getfield 190, 3) := bdX8_count_0 (87, .getfield 190, 3) (List.mem_of_getElem? (i := 28) rfl)
theorem dX8_count_90 : decode cX8_count 90 = .ok (.ireturn, 1) := bdX8_count_0 (90, .ireturn, 1) (List.mem_of_getElem? (i := 29) rfl)
theorem dX8_count_91 : decode cX8_count 91 = .ok (.aload_n 0, 1) := bdX8_count_0 (91, .aload_n 0, 1) (List.mem_of_getElem? (i := 30) rfl)
theorem dX8_count_92 : decode cX8_count 92 = .ok (.getfield 9, 3) := bdX8_count_0 (92, .getfield 9, 3) (List.mem_of_getElem? (i := 31) rfl)
theorem dX8_count_95 : decode cX8_count 95 = .ok (.iconst 0, 1) := bdX8_count_0 (95, .iconst 0, 1) (List.mem_of_getElem? (i := 32) rfl)
theorem dX8_count_96 : decode cX8_count 96 = .ok (.iaload, 1) := bdX8_count_0 (96, .iaload, 1) (List.mem_of_getElem? (i := 33) rfl)
theorem dX8_count_97 : decode cX8_count 97 = .ok (.ireturn, 1) := bdX8_count_0 (97, .ireturn, 1) (List.mem_of_getElem? (i := 34) rfl)
theorem dX8_count_98 : decode cX8_count 98 = .ok (.ldc 98, 2) := bdX8_count_0 (98, .ldc 98, 2) (List.mem_of_getElem? (i := 35) rfl)
theorem dX8_count_100 : decode cX8_count 100 = .ok (.ireturn, 1) := bdX8_count_0 (100, .ireturn, 1) (List.mem_of_getElem? (i := 36) rfl)
theorem dX8_count_1 : decode cX8_count 1 = .ok (.tableswitch 97 0 7 #[47, 54, 61, 68, 73, 80, 85, 90], 47) := by decide +kernel
theorem kX8_277 : mthV RX8 277 8 yX8_founders prog_10_method_88_code 3 (Option.some Jvm.ClassFile.FieldType.int) 0 := ⟨⟨⟨tw_1391, tw_67, tw_1394⟩, rfl, by decide +kernel⟩, tw_1393, tw_58, rfl⟩
def wpX8_count (ln : Nat → Nat) (S : HC) (a0 : Nat) (a1 : Int32) (post : Int32 → HC → Prop) : Prop := if a1 = (0 : Int32) then (dn_ (hR S a0 0) fun b1 => al_ (ln b1) (1 : Int32) (hI S b1) fun z2 => post z2 S) else if a1 = (1 : Int32) then (dn_ (hR S a0 0) fun b3 => al_ (ln b3) (2 : Int32) (hI S b3) fun z4 => post z4 S) else if a1 = (2 : Int32) then (dn_ (hR S a0 0) fun b5 => al_ (ln b5) (3 : Int32) (hI S b5) fun z6 => post z6 S) else if a1 = (3 : Int32) then (wpX8_founders ln S a0 fun z7 S => post z7 S) else if a1 = (4 : Int32) then (dn_ (hR S a0 0) fun b8 => al_ (ln b8) (4 : Int32) (hI S b8) fun z9 => post z9 S) else if a1 = (5 : Int32) then (lt_ (hI S a0 33) fun z10 => post z10 S) else if a1 = (6 : Int32) then (lt_ (hI S a0 7) fun z11 => post z11 S) else if a1 = (7 : Int32) then (dn_ (hR S a0 0) fun b12 => al_ (ln b12) (0 : Int32) (hI S b12) fun z13 => post z13 S) else post (-1000000001 : Int32) S
abbrev rmX8_count : Room := { frames := 2, cells := 0, slots := 0, locals := 44 }
set_option maxHeartbeats 4000000 in
set_option maxRecDepth 100000 in
theorem ctX8_count {l : Launch} {g : GX} {N : Nat} {ln : Nat → Nat} {S : HC} {a0 : Nat} {a1 : Int32} {post : Int32 → HC → Prop} (hr_a0 : a0 < N) (hk_a0 : kd a0 = 8) (h : wpX8_count ln S a0 a1 post) : Met l yX8_count (Cond.code yX8_count prog_10_method_89_code 2 (Option.some Jvm.ClassFile.FieldType.int) :: gtbl) rmX8_count (va_Pc [.ref (gz g + a0), .int a1] (AtP g N ln S)) (QI g N ln post) 0 0 (gF g) := by
  refine m_of (by decide) (Nat.le_of_ble_eq_true rfl) ?_
  intro p e s m below meth c ls F hr I hl
  have hl : lv_has ls 2 [(0, .ref (gz g + a0)), (1, .int a1)] := hl
  unfold wpX8_count at h
  refine lv_iload_n F.1 F.2.1 dX8_count_0 rfl (lv_at hl 1 rfl) ?_
  by_cases c0 : a1 = (0 : Int32)
  · rw [if_pos c0] at h
    refine lv_tableIn (off := 47) (tgt := 48) F.1 F.2.1 dX8_count_1 (by rw [c0]; decide) (by rw [c0]; decide) (by rw [c0]; rfl) (by decide) ?_
    refine lv_aload_n F.1 F.2.1 dX8_count_48 rfl (lv_at hl 0 rfl) ?_
    refine r_getN F I hr_a0 hk_a0 fX8_9 (f := 9) rfl (by decide) dX8_count_49 h (fun b1 hr_b1 hk_b1 h => ?_)
    refine lv_iconst (v := 1) F.1 F.2.1 dX8_count_52 (by decide) ?_
    refine r_ald F I hr_b1 hk_b1 dX8_count_53 h (fun z2 h => ?_)
    exact r_ireturn F I ⟨hr.1, hr.2.1, trivial⟩ h dX8_count_54
  · rw [if_neg c0] at h
    by_cases c1 : a1 = (1 : Int32)
    · rw [if_pos c1] at h
      refine lv_tableIn (off := 54) (tgt := 55) F.1 F.2.1 dX8_count_1 (by rw [c1]; decide) (by rw [c1]; decide) (by rw [c1]; rfl) (by decide) ?_
      refine lv_aload_n F.1 F.2.1 dX8_count_55 rfl (lv_at hl 0 rfl) ?_
      refine r_getN F I hr_a0 hk_a0 fX8_9 (f := 9) rfl (by decide) dX8_count_56 h (fun b3 hr_b3 hk_b3 h => ?_)
      refine lv_iconst (v := 2) F.1 F.2.1 dX8_count_59 (by decide) ?_
      refine r_ald F I hr_b3 hk_b3 dX8_count_60 h (fun z4 h => ?_)
      exact r_ireturn F I ⟨hr.1, hr.2.1, trivial⟩ h dX8_count_61
    · rw [if_neg c1] at h
      by_cases c2 : a1 = (2 : Int32)
      · rw [if_pos c2] at h
        refine lv_tableIn (off := 61) (tgt := 62) F.1 F.2.1 dX8_count_1 (by rw [c2]; decide) (by rw [c2]; decide) (by rw [c2]; rfl) (by decide) ?_
        refine lv_aload_n F.1 F.2.1 dX8_count_62 rfl (lv_at hl 0 rfl) ?_
        refine r_getN F I hr_a0 hk_a0 fX8_9 (f := 9) rfl (by decide) dX8_count_63 h (fun b5 hr_b5 hk_b5 h => ?_)
        refine lv_iconst (v := 3) F.1 F.2.1 dX8_count_66 (by decide) ?_
        refine r_ald F I hr_b5 hk_b5 dX8_count_67 h (fun z6 h => ?_)
        exact r_ireturn F I ⟨hr.1, hr.2.1, trivial⟩ h dX8_count_68
      · rw [if_neg c2] at h
        by_cases c3 : a1 = (3 : Int32)
        · rw [if_pos c3] at h
          refine lv_tableIn (off := 68) (tgt := 69) F.1 F.2.1 dX8_count_1 (by rw [c3]; decide) (by rw [c3]; decide) (by rw [c3]; rfl) (by decide) ?_
          refine lv_aload_n F.1 F.2.1 dX8_count_69 rfl (lv_at hl 0 rfl) ?_
          refine g_I I (run_V (As := []) (rest := []) F I hr_a0 hk_a0 (by decide) kX8_277 (ctX8_founders hr_a0 hk_a0 h) ⟨rfl, rfl⟩ ⟨Nat.le_of_ble_eq_true rfl, Nat.le_of_ble_eq_true rfl⟩ rfl hl.1 rfl (Nat.le_of_ble_eq_true rfl) ⟨Nat.le_of_ble_eq_true rfl, Nat.le_of_ble_eq_true rfl⟩ dX8_count_70) (fun z7 S H locs I h => ?_)
          exact r_ireturn F I ⟨hr.1, hr.2.1, trivial⟩ h dX8_count_73
        · rw [if_neg c3] at h
          by_cases c4 : a1 = (4 : Int32)
          · rw [if_pos c4] at h
            refine lv_tableIn (off := 73) (tgt := 74) F.1 F.2.1 dX8_count_1 (by rw [c4]; decide) (by rw [c4]; decide) (by rw [c4]; rfl) (by decide) ?_
            refine lv_aload_n F.1 F.2.1 dX8_count_74 rfl (lv_at hl 0 rfl) ?_
            refine r_getN F I hr_a0 hk_a0 fX8_9 (f := 9) rfl (by decide) dX8_count_75 h (fun b8 hr_b8 hk_b8 h => ?_)
            refine lv_iconst (v := 4) F.1 F.2.1 dX8_count_78 (by decide) ?_
            refine r_ald F I hr_b8 hk_b8 dX8_count_79 h (fun z9 h => ?_)
            exact r_ireturn F I ⟨hr.1, hr.2.1, trivial⟩ h dX8_count_80
          · rw [if_neg c4] at h
            by_cases c5 : a1 = (5 : Int32)
            · rw [if_pos c5] at h
              refine lv_tableIn (off := 80) (tgt := 81) F.1 F.2.1 dX8_count_1 (by rw [c5]; decide) (by rw [c5]; decide) (by rw [c5]; rfl) (by decide) ?_
              refine lv_aload_n F.1 F.2.1 dX8_count_81 rfl (lv_at hl 0 rfl) ?_
              refine r_getI F I hr_a0 hk_a0 fX8_266 rfl dX8_count_82 h (fun z10 h => ?_)
              exact r_ireturn F I ⟨hr.1, hr.2.1, trivial⟩ h dX8_count_85
            · rw [if_neg c5] at h
              by_cases c6 : a1 = (6 : Int32)
              · rw [if_pos c6] at h
                refine lv_tableIn (off := 85) (tgt := 86) F.1 F.2.1 dX8_count_1 (by rw [c6]; decide) (by rw [c6]; decide) (by rw [c6]; rfl) (by decide) ?_
                refine lv_aload_n F.1 F.2.1 dX8_count_86 rfl (lv_at hl 0 rfl) ?_
                refine r_getI F I hr_a0 hk_a0 fX8_190 rfl dX8_count_87 h (fun z11 h => ?_)
                exact r_ireturn F I ⟨hr.1, hr.2.1, trivial⟩ h dX8_count_90
              · rw [if_neg c6] at h
                by_cases c7 : a1 = (7 : Int32)
                · rw [if_pos c7] at h
                  refine lv_tableIn (off := 90) (tgt := 91) F.1 F.2.1 dX8_count_1 (by rw [c7]; decide) (by rw [c7]; decide) (by rw [c7]; rfl) (by decide) ?_
                  refine lv_aload_n F.1 F.2.1 dX8_count_91 rfl (lv_at hl 0 rfl) ?_
                  refine r_getN F I hr_a0 hk_a0 fX8_9 (f := 9) rfl (by decide) dX8_count_92 h (fun b12 hr_b12 hk_b12 h => ?_)
                  refine lv_iconst (v := 0) F.1 F.2.1 dX8_count_95 (by decide) ?_
                  refine r_ald F I hr_b12 hk_b12 dX8_count_96 h (fun z13 h => ?_)
                  exact r_ireturn F I ⟨hr.1, hr.2.1, trivial⟩ h dX8_count_97
                · rw [if_neg c7] at h
                  have e0 := lv_neT (a := 0) c0 (by decide)
                  have e1 := lv_neT (a := 1) c1 (by decide)
                  have e2 := lv_neT (a := 2) c2 (by decide)
                  have e3 := lv_neT (a := 3) c3 (by decide)
                  have e4 := lv_neT (a := 4) c4 (by decide)
                  have e5 := lv_neT (a := 5) c5 (by decide)
                  have e6 := lv_neT (a := 6) c6 (by decide)
                  have e7 := lv_neT (a := 7) c7 (by decide)
                  refine lv_tableOut (tgt := 98) F.1 F.2.1 dX8_count_1 (by omega) (by decide) ?_
                  refine lv_ldc F.1 F.2.1 F.2.2.2.1 (F.2.2.2.2 _ tw_1064) dX8_count_98 ?_
                  exact r_ireturn F I ⟨hr.1, hr.2.1, trivial⟩ h dX8_count_100
