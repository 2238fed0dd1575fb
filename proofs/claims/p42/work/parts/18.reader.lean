theorem bdX2_sortOf_0 : ∀ q ∈ ([(0, .iload_n 0, 1), (1, .ifCond .ge 5, 3), (4, .iconst 0, 1), (5, .ireturn, 1), (6, .iload_n 0, 1), (7, .bipush 97, 2), (9, .if_icmp .lt 11, 3), (12, .iload_n 0, 1), (13, .bipush 122, 2), (15, .if_icmp .gt 5, 3), (18, .iconst 1, 1), (19, .ireturn, 1), (20, .iload_n 0, 1), (21, .bipush 48, 2), (23, .if_icmp .lt 13, 3), (26, .iload_n 0, 1), (27, .bipush 57, 2), (29, .if_icmp .gt 7, 3), (32, .iconst 2, 1), (33, .goto 4, 3), (36, .iconst 3, 1), (37, .ireturn, 1)] : List (Nat × Jvm.ClassFile.Instr × Nat)), decode cX2_sortOf q.1 = .ok q.2 := chk_ok _ 0 _ rfl (by decide +kernel)
theorem dX2_sortOf_0 : decode cX2_sortOf 0 = .ok (.iload_n 0, 1) := bdX2_sortOf_0 (0, .iload_n 0, 1) (List.mem_of_getElem? (i := 0) rfl)
theorem dX2_sortOf_1 : decode cX2_sortOf 1 = .ok (.ifCond .ge 5, 3) := bdX2_sortOf_0 (1, .ifCond .ge 5, 3) (List.mem_of_getElem? (i := 1) rfl)
theorem dX2_sortOf_4 : decode cX2_sortOf 4 = .ok (.iconst 0, 1) := bdX2_sortOf_0 (4, .iconst 0, 1) (List.mem_of_getElem? (i := 2) rfl)
theorem dX2_sortOf_5 : decode cX2_sortOf 5 = .ok (.ireturn, 1) := bdX2_sortOf_0 (5, .ireturn, 1) (List.mem_of_getElem? (i := 3) rfl)
theorem dX2_sortOf_6 : decode cX2_sortOf 6 = .ok (.iload_n 0, 1) := bdX2_sortOf_0 (6, .iload_n 0, 1) (List.mem_of_getElem? (i := 4) rfl)
theorem dX2_sortOf_7 : decode cX2_sortOf 7 = .ok (.bipush 97, 2) := bdX2_sortOf_0 (7, .bipush 97, 2) (List.mem_of_getElem? (i := 5) rfl)
theorem dX2_sortOf_9 : decode cX2_sortOf 9 = .ok (.if_icmp .lt 11, 3) := bdX2_sortOf_0 (9, .if_icmp .lt 11, 3) (List.mem_of_getElem? (i := 6) rfl)
theorem dX2_sortOf_12 : decode cX2_sortOf 12 = .ok (.iload_n 0, 1) := bdX2_sortOf_0 (12, .iload_n 0, 1) (List.mem_of_getElem? (i := 7) rfl)
theorem dX2_sortOf_13 : decode cX2_sortOf 13 = .ok (.bipush 122, 2) := bdX2_sortOf_0 (13, .bipush 122, 2) (List.mem_of_getElem? (i := 8) rfl)
theorem dX2_sortOf_15 : decode cX2_sortOf 15 = .ok (.if_icmp .gt 5, 3) := bdX2_sortOf_0 (15, .if_icmp .gt 5, 3) (List.mem_of_getElem? (i := 9) rfl)
theorem dX2_sortOf_18 : decode cX2_sortOf 18 = .ok (.iconst 1, 1) := bdX2_sortOf_0 (18, .iconst 1, 1) (List.mem_of_getElem? (i := 10) rfl)
theorem dX2_sortOf_19 : decode cX2_sortOf 19 = .ok (.ireturn, 1) := bdX2_sortOf_0 (19, .ireturn, 1) (List.mem_of_getElem? (i := 11) rfl)
theorem dX2_sortOf_20 : decode cX2_sortOf 20 = .ok (.iload_n 0, 1) := bdX2_sortOf_0 (20, .iload_n 0, 1) (List.mem_of_getElem? (i := 12) rfl)
theorem dX2_sortOf_21 : decode cX2_sortOf 21 = .ok (.bipush 48, 2) := bdX2_sortOf_0 (21, .bipush 48, 2) (List.mem_of_getElem? (i := 13) rfl)
theorem dX2_sortOf_23 : decode cX2_sortOf 23 = .ok (.if_icmp .lt 13, 3) := bdX2_sortOf_0 (23, .if_icmp .lt 13, 3) (List.mem_of_getElem? (i := 14) rfl)
theorem dX2_sortOf_26 : decode cX2_sortOf 26 = .ok (.iload_n 0, 1) := bdX2_sortOf_0 (26, .iload_n 0, 1) (List.mem_of_getElem? (i := 15) rfl)
theorem dX2_sortOf_27 : decode cX2_sortOf 27 = .ok (.bipush 57, 2) := bdX2_sortOf_0 (27, .bipush 57, 2) (List.mem_of_getElem? (i := 16) rfl)
theorem dX2_sortOf_29 : decode cX2_sortOf 29 = .ok (.if_icmp .gt 7, 3) := bdX2_sortOf_0 (29, .if_icmp .gt 7, 3) (List.mem_of_getElem? (i := 17) rfl)
theorem dX2_sortOf_32 : decode cX2_sortOf 32 = .ok (.iconst 2, 1) := bdX2_sortOf_0 (32, .iconst 2, 1) (List.mem_of_getElem? (i := 18) rfl)
theorem dX2_sortOf_33 : decode cX2_sortOf 33 = .ok (.goto 4, 3) := bdX2_sortOf_0 (33, .goto 4, 3) (List.mem_of_getElem? (i := 19) rfl)
theorem dX2_sortOf_36 : decode cX2_sortOf 36 = .ok (.iconst 3, 1) := bdX2_sortOf_0 (36, .iconst 3, 1) (List.mem_of_getElem? (i := 20) rfl)
theorem dX2_sortOf_37 : decode cX2_sortOf 37 = .ok (.ireturn, 1) := bdX2_sortOf_0 (37, .ireturn, 1) (List.mem_of_getElem? (i := 21) rfl)
def BX2_sortOf_36 (ln : Nat → Nat) (post : Int32 → HC → Prop) (S : HC)  : Prop := post (3 : Int32) S
def BX2_sortOf_20 (ln : Nat → Nat) (post : Int32 → HC → Prop) (S : HC) (x0 : Int32) : Prop := if x0 < (48 : Int32) then (BX2_sortOf_36 ln post S) else (if (57 : Int32) < x0 then (BX2_sortOf_36 ln post S) else (post (2 : Int32) S))
def wpX2_sortOf (ln : Nat → Nat) (S : HC) (a0 : Int32) (post : Int32 → HC → Prop) : Prop := if 0 ≤ a0 then (if a0 < (97 : Int32) then (BX2_sortOf_20 ln post S a0) else (if (122 : Int32) < a0 then (BX2_sortOf_20 ln post S a0) else (post (1 : Int32) S))) else (post (0 : Int32) S)
abbrev rmX2_sortOf : Room := { frames := 0, cells := 0, slots := 0, locals := 0 }
set_option maxHeartbeats 4000000 in
set_option maxRecDepth 100000 in
theorem ctX2_sortOf {l : Launch} {g : GX} {N : Nat} {ln : Nat → Nat} {S : HC} {a0 : Int32} {post : Int32 → HC → Prop} (h : wpX2_sortOf ln S a0 post) : Met l yX2_sortOf (Cond.code yX2_sortOf prog_4_method_6_code 1 (Option.some Jvm.ClassFile.FieldType.int) :: gtbl) rmX2_sortOf (va_Pc [.int a0] (AtP g N ln S)) (QI g N ln post) 0 0 (gF g) := by
  refine m_of (by decide) (Nat.le_of_ble_eq_true rfl) ?_
  intro p e s m below meth c ls F hr I hl
  have hl : lv_has ls 1 [(0, .int a0)] := hl
  unfold wpX2_sortOf at h
  have hj_36 : ∀ (S : HC) (H : Heap) (locs : List Loc) (ls : Array Slot), BX2_sortOf_36 ln post S  → Inv g N ln S s H locs → lv_has ls 1 [] → W p l e rmX2_sortOf s m ([.int a0] : List Value).toArray below meth c H locs 0 0 (MQ below (QI g N ln post) ([.int a0] : List Value).toArray s 0 0 (gF g)) (F0 m 36 ls []) := by
    intro S H locs ls h I hl
    unfold BX2_sortOf_36 at h
    refine lv_iconst (v := 3) F.1 F.2.1 dX2_sortOf_36 (by decide) ?_
    exact r_ireturn F I ⟨hr.1, hr.2.1, trivial⟩ h dX2_sortOf_37
  have hj_20 : ∀ (S : HC) (H : Heap) (locs : List Loc) (ls : Array Slot) (x0 : Int32), BX2_sortOf_20 ln post S x0 → Inv g N ln S s H locs → lv_has ls 1 [(0, .int x0)] → W p l e rmX2_sortOf s m ([.int a0] : List Value).toArray below meth c H locs 0 0 (MQ below (QI g N ln post) ([.int a0] : List Value).toArray s 0 0 (gF g)) (F0 m 20 ls []) := by
    intro S H locs ls x0 h I hl
    unfold BX2_sortOf_20 at h
    refine lv_iload_n F.1 F.2.1 dX2_sortOf_20 rfl (lv_at hl 0 rfl) ?_
    refine lv_bipush (v := 48) F.1 F.2.1 dX2_sortOf_21 (by decide) ?_
    refine r_icmp_lt (tgt := 36) F dX2_sortOf_23 (by decide) h (fun h => ?_) (fun h => ?_)
    · exact hj_36 S _ _ _   h I (lv_sub hl [] rfl)
    · refine lv_iload_n F.1 F.2.1 dX2_sortOf_26 rfl (lv_at hl 0 rfl) ?_
      refine lv_bipush (v := 57) F.1 F.2.1 dX2_sortOf_27 (by decide) ?_
      refine r_icmp_gt (tgt := 36) F dX2_sortOf_29 (by decide) h (fun h => ?_) (fun h => ?_)
      · exact hj_36 S _ _ _   h I (lv_sub hl [] rfl)
      · refine lv_iconst (v := 2) F.1 F.2.1 dX2_sortOf_32 (by decide) ?_
        refine lv_goto (tgt := 37) F.1 F.2.1 dX2_sortOf_33 (by decide) ?_
        exact r_ireturn F I ⟨hr.1, hr.2.1, trivial⟩ h dX2_sortOf_37
  refine lv_iload_n F.1 F.2.1 dX2_sortOf_0 rfl (lv_at hl 0 rfl) ?_
  refine r_if_ge (tgt := 6) F dX2_sortOf_1 (by decide) h (fun h => ?_) (fun h => ?_)
  · refine lv_iload_n F.1 F.2.1 dX2_sortOf_6 rfl (lv_at hl 0 rfl) ?_
    refine lv_bipush (v := 97) F.1 F.2.1 dX2_sortOf_7 (by decide) ?_
    refine r_icmp_lt (tgt := 20) F dX2_sortOf_9 (by decide) h (fun h => ?_) (fun h => ?_)
    · exact hj_20 S _ _ _ a0  h I (lv_sub hl [0] rfl)
    · refine lv_iload_n F.1 F.2.1 dX2_sortOf_12 rfl (lv_at hl 0 rfl) ?_
      refine lv_bipush (v := 122) F.1 F.2.1 dX2_sortOf_13 (by decide) ?_
      refine r_icmp_gt (tgt := 20) F dX2_sortOf_15 (by decide) h (fun h => ?_) (fun h => ?_)
      · exact hj_20 S _ _ _ a0  h I (lv_sub hl [0] rfl)
      · refine lv_iconst (v := 1) F.1 F.2.1 dX2_sortOf_18 (by decide) ?_
        exact r_ireturn F I ⟨hr.1, hr.2.1, trivial⟩ h dX2_sortOf_19
  · refine lv_iconst (v := 0) F.1 F.2.1 dX2_sortOf_4 (by decide) ?_
    exact r_ireturn F I ⟨hr.1, hr.2.1, trivial⟩ h dX2_sortOf_5
theorem bdX2_fail_0 : ∀ q ∈ ([(0, .aload_n 0, 1), (1, .getfield 47, 3), (4, .ifCond .ge 11, 3), (7, .aload_n 0, 1), (8, .aload_n 0, 1), (9, .getfield 22, 3), (12, .putfield 47, 3), (15, .return_, 1)] : List (Nat × Jvm.ClassFile.Instr × Nat)), decode cX2_fail q.1 = .ok q.2 := chk_ok _ 0 _ rfl (by decide +kernel)
theorem dX2_fail_0 : decode cX2_fail 0 = .ok (.aload_n 0, 1) := bdX2_fail_0 (0, .aload_n 0, 1) (List.mem_of_getElem? (i := 0) rfl)
theorem dX2_fail_1 : decode cX2_fail 1 = .ok (.getfield 47, 3) := bdX2_fail_0 (1, .getfield 47, 3) (List.mem_of_getElem? (i := 1) rfl)
theorem dX2_fail_4 : decode cX2_fail 4 = .ok (.ifCond .ge 11, 3) := bdX2_fail_0 (4, .ifCond .ge 11, 3) (List.mem_of_getElem? (i := 2) rfl)
theorem dX2_fail_7 : decode cX2_fail 7 = .ok (.aload_n 0, 1) := bdX2_fail_0 (7, .aload_n 0, 1) (List.mem_of_getElem? (i := 3) rfl)
theorem dX2_fail_8 : decode cX2_fail 8 = .ok (.aload_n 0, 1) := bdX2_fail_0 (8, .aload_n 0, 1) (List.mem_of_getElem? (i := 4) rfl)
theorem dX2_fail_9 : decode cX2_fail 9 = .ok (.getfield 22, 3) := bdX2_fail_0 (9, .getfield 22, 3) (List.mem_of_getElem? (i := 5) rfl)
theorem dX2_fail_12 : decode cX2_fail 12 = .ok (.putfield 47, 3) := bdX2_fail_0 (12, .putfield 47, 3) (List.mem_of_getElem? (i := 6) rfl)
theorem dX2_fail_15 : decode cX2_fail 15 = .ok (.return_, 1) := bdX2_fail_0 (15, .return_, 1) (List.mem_of_getElem? (i := 7) rfl)
def wpX2_fail (ln : Nat → Nat) (S : HC) (a0 : Nat) (post : HC → Prop) : Prop := lt_ (hI S a0 10) fun z1 => if 0 ≤ z1 then (post S) else (lt_ (hI S a0 2) fun z2 => lt_ (sI S a0 10 z2) fun S => post S)
abbrev rmX2_fail : Room := { frames := 0, cells := 0, slots := 0, locals := 0 }
set_option maxHeartbeats 4000000 in
set_option maxRecDepth 100000 in
theorem ctX2_fail {l : Launch} {g : GX} {N : Nat} {ln : Nat → Nat} {S : HC} {a0 : Nat} {post : HC → Prop} (hr_a0 : a0 < N) (hk_a0 : kd a0 = 2) (h : wpX2_fail ln S a0 post) : Met l yX2_fail (Cond.code yX2_fail prog_4_method_4_code 1 (Option.none : Option Jvm.ClassFile.FieldType) :: gtbl) rmX2_fail (va_Pc [.ref (gz g + a0)] (AtP g N ln S)) (QV g N ln post) 0 0 (gF g) := by
  refine m_of (by decide) (Nat.le_of_ble_eq_true rfl) ?_
  intro p e s m below meth c ls F hr I hl
  have hl : lv_has ls 1 [(0, .ref (gz g + a0))] := hl
  unfold wpX2_fail at h
  refine lv_aload_n F.1 F.2.1 dX2_fail_0 rfl (lv_at hl 0 rfl) ?_
  refine r_getI F I hr_a0 hk_a0 fX2_47 rfl dX2_fail_1 h (fun z1 h => ?_)
  refine r_if_ge (tgt := 15) F dX2_fail_4 (by decide) h (fun h => ?_) (fun h => ?_)
  · exact r_vreturn F I ⟨hr.1, hr.2.1, trivial⟩ h dX2_fail_15
  · refine lv_aload_n F.1 F.2.1 dX2_fail_7 rfl (lv_at hl 0 rfl) ?_
    refine lv_aload_n F.1 F.2.1 dX2_fail_8 rfl (lv_at hl 0 rfl) ?_
    refine r_getI F I hr_a0 hk_a0 fX2_22 rfl dX2_fail_9 h (fun z2 h => ?_)
    refine r_putI F I hr_a0 hk_a0 fX2_47 rfl (Or.inl rfl) ⟨rfl, rfl⟩ dX2_fail_12 h (fun S H locs I h => ?_)
    exact r_vreturn F I ⟨hr.1, hr.2.1, trivial⟩ h dX2_fail_15
theorem bdX2_write_0 : ∀ q ∈ ([(0, .aload_n 0, 1), (1, .getfield 35, 3), (4, .ifCond .lt 32, 3), (7, .aload_n 0, 1), (8, .getfield 35, 3), (11, .bipush 96, 2), (13, .if_icmp .ge 23, 3), (16, .aload_n 0, 1), (17, .getfield 31, 3), (20, .aload_n 0, 1), (21, .getfield 35, 3), (24, .iload_n 1, 1), (25, .iastore, 1), (26, .aload_n 0, 1), (27, .dup, 1), (28, .getfield 35, 3), (31, .iconst 1, 1), (32, .iadd, 1), (33, .putfield 35, 3), (36, .return_, 1)] : List (Nat × Jvm.ClassFile.Instr × Nat)), decode cX2_write q.1 = .ok q.2 := chk_ok _ 0 _ rfl (by decide +kernel)
theorem dX2_write_0 : decode cX2_write 0 = .ok (.aload_n 0, 1) := bdX2_write_0 (0, .aload_n 0, 1) (List.mem_of_getElem? (i := 0) rfl)
theorem dX2_write_1 : decode cX2_write 1 = .ok (.getfield 35, 3) := bdX2_write_0 (1, .getfield 35, 3) (List.mem_of_getElem? (i := 1) rfl)
theorem dX2_write_4 : decode cX2_write 4 = .ok (.ifCond .lt 32, 3) := bdX2_write_0 (4, .ifCond .lt 32, 3) (List.mem_of_getElem? (i := 2) rfl)
theorem dX2_write_7 : decode cX2_write 7 = .ok (.aload_n 0, 1) := bdX2_write_0 (7, .aload_n 0, 1) (List.mem_of_getElem? (i := 3) rfl)
theorem dX2_write_8 : decode cX2_write 8 = .ok (.getfield 35, 3) := bdX2_write_0 (8, .getfield 35, 3) (List.mem_of_getElem? (i := 4) rfl)
theorem dX2_write_11 : decode cX2_write 11 = .ok (.bipush 96, 2) := bdX2_write_0 (11, .bipush 96, 2) (List.mem_of_getElem? (i := 5) rfl)
theorem dX2_write_13 : decode cX2_write 13 = .ok (.if_icmp .ge 23, 3) := bdX2_write_0 (13, .if_icmp .ge 23, 3) (List.mem_of_getElem? (i := 6) rfl)
theorem dX2_write_16 : decode cX2_write 16 = .ok (.aload_n 0, 1) := bdX2_write_0 (16, .aload_n 0, 1) (List.mem_of_getElem? (i := 7) rfl)
theorem dX2_write_17 : decode cX2_write 17 = .ok (.getfield 31, 3) := bdX2_write_0 (17, .getfield 31, 3) (List.mem_of_getElem? (i := 8) rfl)
theorem dX2_write_20 : decode cX2_write 20 = .ok (.aload_n 0, 1) := bdX2_write_0 (20, .aload_n 0, 1) (List.mem_of_getElem? (i := 9) rfl)
theorem dX2_write_21 : decode cX2_write 21 = .ok (.getfield 35, 3) := bdX2_write_0 (21, .getfield 35, 3) (List.mem_of_getElem? (i := 10) rfl)
theorem dX2_write_24 : decode cX2_write 24 = .ok (.iload_n 1, 1) := bdX2_write_0 (24, .iload_n 1, 1) (List.mem_of_getElem? (i := 11) rfl)
theorem dX2_write_25 : decode cX2_write 25 = .ok (.iastore, 1) := bdX2_write_0 (25, .iastore, 1) (List.mem_of_getElem? (i := 12) rfl)
theorem dX2_write_26 : decode cX2_write 26 = .ok (.aload_n 0, 1) := bdX2_write_0 (26, .aload_n 0, 1) (List.mem_of_getElem? (i := 13) rfl)
theorem dX2_write_27 : decode cX2_write 27 = .ok (.dup, 1) := bdX2_write_0 (27, .dup, 1) (List.mem_of_getElem? (i := 14) rfl)
theorem dX2_write_28 : decode cX2_write 28 = .ok (.getfield 35, 3) := bdX2_write_0 (28, .getfield 35, 3) (List.mem_of_getElem? (i := 15) rfl)
theorem dX2_write_31 : decode cX2_write 31 = .ok (.iconst 1, 1) := bdX2_write_0 (31, .iconst 1, 1) (List.mem_of_getElem? (i := 16) rfl)
theorem dX2_write_32 : decode cX2_write 32 = .ok (.iadd, 1) := bdX2_write_0 (32, .iadd, 1) (List.mem_of_getElem? (i := 17) rfl)
theorem dX2_write_33 : decode cX2_write 33 = .ok (.putfield 35, 3) := bdX2_write_0 (33, .putfield 35, 3) (List.mem_of_getElem? (i := 18) rfl)
theorem dX2_write_36 : decode cX2_write 36 = .ok (.return_, 1) := bdX2_write_0 (36, .return_, 1) (List.mem_of_getElem? (i := 19) rfl)
def wpX2_write (ln : Nat → Nat) (S : HC) (a0 : Nat) (a1 : Int32) (post : HC → Prop) : Prop := lt_ (hI S a0 6) fun z1 => if z1 < 0 then (post S) else (lt_ (hI S a0 6) fun z2 => if (96 : Int32) ≤ z2 then (post S) else (dn_ (hR S a0 5) fun b3 => lt_ (hI S a0 6) fun z4 => as_ (ln b3) z4 (fun j => sI S b3 j a1) fun S => lt_ (hI S a0 6) fun z5 => lt_ (z5 + (1 : Int32)) fun z6 => lt_ (sI S a0 6 z6) fun S => post S))
abbrev rmX2_write : Room := { frames := 0, cells := 0, slots := 0, locals := 0 }
set_option maxHeartbeats 4000000 in
set_option maxRecDepth 100000 in
theorem ctX2_write {l : Launch} {g : GX} {N : Nat} {ln : Nat → Nat} {S : HC} {a0 : Nat} {a1 : Int32} {post : HC → Prop} (hr_a0 : a0 < N) (hk_a0 : kd a0 = 2) (h : wpX2_write ln S a0 a1 post) : Met l yX2_write (Cond.code yX2_write prog_4_method_17_code 2 (Option.none : Option Jvm.ClassFile.FieldType) :: gtbl) rmX2_write (va_Pc [.ref (gz g + a0), .int a1] (AtP g N ln S)) (QV g N ln post) 0 0 (gF g) := by
  refine m_of (by decide) (Nat.le_of_ble_eq_true rfl) ?_
  intro p e s m below meth c ls F hr I hl
  have hl : lv_has ls 2 [(0, .ref (gz g + a0)), (1, .int a1)] := hl
  unfold wpX2_write at h
  refine lv_aload_n F.1 F.2.1 dX2_write_0 rfl (lv_at hl 0 rfl) ?_
  refine r_getI F I hr_a0 hk_a0 fX2_35 rfl dX2_write_1 h (fun z1 h => ?_)
  refine r_if_lt (tgt := 36) F dX2_write_4 (by decide) h (fun h => ?_) (fun h => ?_)
  · exact r_vreturn F I ⟨hr.1, hr.2.1, trivial⟩ h dX2_write_36
  · refine lv_aload_n F.1 F.2.1 dX2_write_7 rfl (lv_at hl 0 rfl) ?_
    refine r_getI F I hr_a0 hk_a0 fX2_35 rfl dX2_write_8 h (fun z2 h => ?_)
    refine lv_bipush (v := 96) F.1 F.2.1 dX2_write_11 (by decide) ?_
    refine r_icmp_ge (tgt := 36) F dX2_write_13 (by decide) h (fun h => ?_) (fun h => ?_)
    · exact r_vreturn F I ⟨hr.1, hr.2.1, trivial⟩ h dX2_write_36
    · refine lv_aload_n F.1 F.2.1 dX2_write_16 rfl (lv_at hl 0 rfl) ?_
      refine r_getN F I hr_a0 hk_a0 fX2_31 (f := 9) rfl (by decide) dX2_write_17 h (fun b3 hr_b3 hk_b3 h => ?_)
      refine lv_aload_n F.1 F.2.1 dX2_write_20 rfl (lv_at hl 0 rfl) ?_
      refine r_getI F I hr_a0 hk_a0 fX2_35 rfl dX2_write_21 h (fun z4 h => ?_)
      refine lv_iload_n F.1 F.2.1 dX2_write_24 rfl (lv_at hl 1 rfl) ?_
      refine r_ast F I hr_b3 hk_b3 dX2_write_25 h (fun S H locs I h => ?_)
      refine lv_aload_n F.1 F.2.1 dX2_write_26 rfl (lv_at hl 0 rfl) ?_
      refine lv_dup F.1 F.2.1 dX2_write_27 rfl ?_
      refine r_getI F I hr_a0 hk_a0 fX2_35 rfl dX2_write_28 h (fun z5 h => ?_)
      refine lv_iconst (v := 1) F.1 F.2.1 dX2_write_31 (by decide) ?_
      refine r_iadd F dX2_write_32 h (fun z6 h => ?_)
      refine r_putI F I hr_a0 hk_a0 fX2_35 rfl (Or.inl rfl) ⟨rfl, rfl⟩ dX2_write_33 h (fun S H locs I h => ?_)
      exact r_vreturn F I ⟨hr.1, hr.2.1, trivial⟩ h dX2_write_36
theorem bdX2_advance_0 : ∀ q ∈ ([(0, .aload_n 0, 1), (1, .getfield 18, 3), (4, .iconst 1, 1), (5, .if_icmp .eq 11, 3), (8, .aload_n 0, 1), (9, .getfield 18, 3), (12, .iconst 2, 1), (13, .if_icmp .ne 7, 3), (16, .iconst 1, 1), (17, .goto 4, 3), (20, .iconst 0, 1), (21, .istore_n 1, 1), (22, .aload_n 0, 1), (23, .aload_n 0, 1), (24, .getfield 25, 3), (27, .putfield 22, 3), (30, .aload_n 0, 1), (31, .getfield 22, 3), (34, .aload_n 0, 1), (35, .getfield 12, 3), (38, .getfield 69, 3), (41, .if_icmp .ge 32, 3), (44, .aload_n 0, 1), (45, .getfield 12, 3), (48, .aload_n 0, 1), (49, .getfield 22, 3), (52, .invokevirtual 72, 3), (55, .bipush 32, 2), (57, .if_icmp .ne 16, 3), (60, .aload_n 0, 1), (61, .dup, 1), (62, .getfield 22, 3), (65, .iconst 1, 1), (66, .iadd, 1), (67, .putfield 22, 3), (70, .goto (-40), 3), (73, .aload_n 0, 1), (74, .getfield 22, 3), (77, .aload_n 0, 1), (78, .getfield 25, 3)] : List (Nat × Jvm.ClassFile.Instr × Nat)), decode cX2_advance q.1 = .ok q.2 := chk_ok _ 0 _ rfl (by decide +kernel)
theorem dX2_advance_0 : decode cX2_advance 0 = .ok (.aload_n 0, 1) := bdX2_advance_0 (0, .aload_n 0, 1) (List.mem_of_getElem? (i := 0) rfl)
theorem dX2_advance_1 : decode cX2_advance 1 = .ok (.getfield 18, 3) := bdX2_advance_0 (1, .getfield 18, 3) (List.mem_of_getElem? (i := 1) rfl)
theorem dX2_advance_4 : decode cX2_advance 4 = .ok (.iconst 1, 1) := bdX2_advance_0 (4, .iconst 1, 1) (List.mem_of_getElem? (i := 2) rfl)
theorem dX2_advance_5 : decode cX2_advance 5 = .ok (.if_icmp .eq 11, 3) := bdX2_advance_0 (5, .if_icmp .eq 11, 3) (List.mem_of_getElem? (i := 3) rfl)
theorem dX2_advance_8 : decode cX2_advance 8 = .ok (.aload_n 0, 1) := bdX2_advance_0 (8, .aload_n 0, 1) (List.mem_of_getElem? (i := 4) rfl)
theorem dX2_advance_9 : decode cX2_advance 9 = .ok (.getfield 18, 3) := bdX2_advance_0 (9, .getfield 18, 3) (List.mem_of_getElem? (i := 5) rfl)
theorem dX2_advance_12 : decode cX2_advance 12 = .ok (.iconst 2, 1) := bdX2_advance_0 (12, .iconst 2, 1) (List.mem_of_getElem? (i := 6) rfl)
theorem dX2_advance_13 : decode cX2_advance 13 = .ok (.if_icmp .ne 7, 3) := bdX2_advance_0 (13, .if_icmp .ne 7, 3) (List.mem_of_getElem? (i := 7) rfl)
theorem dX2_advance_16 : decode cX2_advance 16 = .ok (.iconst 1, 1) := bdX2_advance_0 (16, .iconst 1, 1) (List.mem_of_getElem? (i := 8) rfl)
theorem dX2_advance_17 : decode cX2_advance 17 = .ok (.goto 4, 3) := bdX2_advance_0 (17, .goto 4, 3) (List.mem_of_getElem? (i := 9) rfl)
theorem dX2_advance_20 : decode cX2_advance 20 = .ok (.iconst 0, 1) := bdX2_advance_0 (20, .iconst 0, 1) (List.mem_of_getElem? (i := 10) rfl)
theorem dX2_advance_21 : decode cX2_advance 21 = .ok (.istore_n 1, 1) := bdX2_advance_0 (21, .istore_n 1, 1) (List.mem_of_getElem? (i := 11) rfl)
theorem dX2_advance_22 : decode cX2_advance 22 = .ok (.aload_n 0, 1) := bdX2_advance_0 (22, .aload_n 0, 1) (List.mem_of_getElem? (i := 12) rfl)
theorem dX2_advance_23 : decode cX2_advance 23 = .ok (.aload_n 0, 1) := bdX2_advance_0 (23, .aload_n 0, 1) (List.mem_of_getElem? (i := 13) rfl)
theorem dX2_advance_24 : decode cX2_advance 24 = .ok (.getfield 25, 3) := bdX2_advance_0 (24, .getfield 25, 3) (List.mem_of_getElem? (i := 14) rfl)
theorem dX2_advance_27 : decode cX2_advance 27 = .ok (.putfield 22, 3) := bdX2_advance_0 (27, .putfield 22, 3) (List.mem_of_getElem? (i := 15) rfl)
theorem dX2_advance_30 : decode cX2_advance 30 = .ok (.aload_n 0, 1) := bdX2_advance_0 (30, .aload_n 0, 1) (List.mem_of_getElem? (i := 16) rfl)
theorem dX2_advance_31 : decode cX2_advance 31 = .ok (.getfield 22, 3) := bdX2_advance_0 (31, .getfield 22, 3) (List.mem_of_getElem? (i := 17) rfl)
theorem dX2_advance_34 : decode cX2_advance 34 = .ok (.aload_n 0, 1) := bdX2_advance_0 (34, .aload_n 0, 1) (List.mem_of_getElem? (i := 18) rfl)
theorem dX2_advance_35 : decode cX2_advance 35 = .ok (.getfield 12, 3) := bdX2_advance_0 (35, .getfield 12, 3) (List.mem_of_getElem? (i := 19) rfl)
theorem dX2_advance_38 : decode cX2_advance 38 = .ok (.getfield 69, 3) := bdX2_advance_0 (38, .getfield 69, 3) (List.mem_of_getElem? (i := 20) rfl)
theorem dX2_advance_41 : decode cX2_advance 41 = .ok (.if_icmp .ge 32, 3) := bdX2_advance_0 (41, .if_icmp .ge 32, 3) (List.mem_of_getElem? (i := 21) rfl)
theorem dX2_advance_44 : decode cX2_advance 44 = .ok (.aload_n 0, 1) := bdX2_advance_0 (44, .aload_n 0, 1) (List.mem_of_getElem? (i := 22) rfl)
theorem dX2_advance_45 : decode cX2_advance 45 = .ok (.getfield 12, 3) := bdX2_advance_0 (45, .getfield 12, 3) (List.mem_of_getElem? (i := 23) rfl)
theorem dX2_advance_48 : decode cX2_advance 48 = .ok (.aload_n 0, 1) := bdX2_advance_0 (48, .aload_n 0, 1) (List.mem_of_getElem? (i := 24) rfl)
theorem dX2_advance_49 : decode cX2_advance 49 = .ok (.getfield 22, 3) := bdX2_advance_0 (49, .getfield 22, 3) (List.mem_of_getElem? (i := 25) rfl)
theorem dX2_advance_52 : decode cX2_advance 52 = .ok (.invokevirtual 72, 3) := bdX2_advance_0 (52, .invokevirtual 72, 3) (List.mem_of_getElem? (i := 26) rfl)
theorem dX2_advance_55 : decode cX2_advance 55 = .ok (.bipush 32, 2) := bdX2_advance_0 (55, .bipush 32, 2) (List.mem_of_getElem? (i := 27) rfl)
theorem dX2_advance_57 : decode cX2_advance 57 = .ok (.if_icmp .ne 16, 3) := bdX2_advance_0 (57, .if_icmp .ne 16, 3) (List.mem_of_getElem? (i := 28) rfl)
theorem dX2_advance_60 : decode cX2_advance 60 = .ok (.aload_n 0, 1) := bdX2_advance_0 (60, .aload_n 0, 1) (List.mem_of_getElem? (i := 29) rfl)
theorem dX2_advance_61 : decode cX2_advance 61 = .ok (.dup, 1) := bdX2_advance_0 (61, .dup, 1) (List.mem_of_getElem? (i := 30) rfl)
theorem dX2_advance_62 : decode cX2_advance 62 = .ok (.getfield 22, 3) := bdX2_advance_0 (62, .getfield 22, 3) (List.mem_of_getElem? (i := 31) rfl)
theorem dX2_advance_65 : decode cX2_advance 65 = .ok (.iconst 1, 1) := bdX2_advance_0 (65, .iconst 1, 1) (List.mem_of_getElem? (i := 32) rfl)
theorem dX2_advance_66 : decode cX2_advance 66 = .ok (.iadd, 1) := bdX2_advance_0 (66, .iadd, 1) (List.mem_of_getElem? (i := 33) rfl)
theorem dX2_advance_67 : decode cX2_advance 67 = .ok (.putfield 22, 3) := bdX2_advance_0 (67, .putfield 22, 3) (List.mem_of_getElem? (i := 34) rfl)
theorem dX2_advance_70 : decode cX2_advance 70 = .ok (.goto (-40), 3) := bdX2_advance_0 (70, .goto (-40), 3) (List.mem_of_getElem? (i := 35) rfl)
theorem dX2_advance_73 : decode cX2_advance 73 = .ok (.aload_n 0, 1) := bdX2_advance_0 (73, .aload_n 0, 1) (List.mem_of_getElem? (i := 36) rfl)
theorem dX2_advance_74 : decode cX2_advance 74 = .ok (.getfield 22, 3) := bdX2_advance_0 (74, .getfield 22, 3) (List.mem_of_getElem? (i := 37) rfl)
theorem dX2_advance_77 : decode cX2_advance 77 = .ok (.aload_n 0, 1) := bdX2_advance_0 (77, .aload_n 0, 1) (List.mem_of_getElem? (i := 38) rfl)
theorem dX2_advance_78 : decode cX2_advance 78 = .ok (.getfield 25, 3) := bdX2_advance_0 (78, .getfield 25, 3) (List.mem_of_getElem? (i := 39) rfl)
theorem bdX2_advance_81 : ∀ q ∈ ([(81, .if_icmp .le 7, 3), (84, .iconst 1, 1), (85, .goto 4, 3), (88, .iconst 0, 1), (89, .istore_n 2, 1), (90, .aload_n 0, 1), (91, .aload_n 0, 1), (92, .getfield 12, 3), (95, .aload_n 0, 1), (96, .getfield 22, 3), (99, .invokevirtual 72, 3), (102, .invokestatic 76, 3), (105, .putfield 18, 3), (108, .aload_n 0, 1), (109, .aload_n 0, 1), (110, .getfield 22, 3), (113, .putfield 25, 3), (116, .aload_n 0, 1), (117, .getfield 18, 3), (120, .iconst 3, 1), (121, .if_icmp .ne 16, 3), (124, .aload_n 0, 1), (125, .aload_n 0, 1), (126, .getfield 22, 3), (129, .iconst 1, 1), (130, .iadd, 1), (131, .putfield 25, 3), (134, .goto 71, 3), (137, .aload_n 0, 1), (138, .getfield 18, 3), (141, .ifCond .eq 64, 3), (144, .aload_n 0, 1), (145, .getfield 25, 3), (148, .aload_n 0, 1), (149, .getfield 12, 3), (152, .getfield 69, 3), (155, .if_icmp .ge 37, 3), (158, .aload_n 0, 1), (159, .getfield 12, 3), (162, .aload_n 0, 1)] : List (Nat × Jvm.ClassFile.Instr × Nat)), decode cX2_advance q.1 = .ok q.2 := chk_ok _ 81 _ rfl (by decide +kernel)
theorem dX2_advance_81 : decode cX2_advance 81 = .ok (.if_icmp .le 7, 3) := bdX2_advance_81 (81, .if_icmp .le 7, 3) (List.mem_of_getElem? (i := 0) rfl)
theorem dX2_advance_84 : decode cX2_advance 84 = .ok (.iconst 1, 1) := bdX2_advance_81 (84, .iconst 1, 1) (List.mem_of_getElem? (i := 1) rfl)
theorem dX2_advance_85 : decode cX2_advance 85 = .ok (.goto 4, 3) := bdX2_advance_81 (85, .goto 4, 3) (List.mem_of_getElem? (i := 2) rfl)
theorem dX2_advance_88 : decode cX2_advance 88 = .ok (.iconst 0, 1) := bdX2_advance_81 (88, .iconst 0, 1) (List.mem_of_getElem? (i := 3) rfl)
theorem dX2_advance_89 : decode cX2_advance 89 = .ok (.istore_n 2, 1) := bdX2_advance_81 (89, .istore_n 2, 1) (List.mem_of_getElem? (i := 4) rfl)
theorem dX2_advance_90 : decode cX2_advance 90 = .ok (.aload_n 0, 1) := bdX2_advance_81 (90, .aload_n 0, 1) (List.mem_of_getElem? (i := 5) rfl)
theorem dX2_advance_91 : decode cX2_advance 91 = .ok (.aload_n 0, 1) := bdX2_advance_81 (91, .aload_n 0, 1) (List.mem_of_getElem? (i := 6) rfl)
theorem dX2_advance_92 : decode cX2_advance 92 = .ok (.getfield 12, 3) := bdX2_advance_81 (92, .getfield 12, 3) (List.mem_of_getElem? (i := 7) rfl)
theorem dX2_advance_95 : decode cX2_advance 95 = .ok (.aload_n 0, 1) := bdX2_advance_81 (95, .aload_n 0, 1) (List.mem_of_getElem? (i := 8) rfl)
theorem dX2_advance_96 : decode cX2_advance 96 = .ok (.getfield 22, 3) := bdX2_advance_81 (96, .getfield 22, 3) (List.mem_of_getElem? (i := 9) rfl)
theorem dX2_advance_99 : decode cX2_advance 99 = .ok (.invokevirtual 72, 3) := bdX2_advance_81 (99, .invokevirtual 72, 3) (List.mem_of_getElem? (i := 10) rfl)
theorem dX2_advance_102 : decode cX2_advance 102 = .ok (.invokestatic 76, 3) := bdX2_advance_81 (102, .invokestatic 76, 3) (List.mem_of_getElem? (i := 11) rfl)
theorem dX2_advance_105 : decode cX2_advance 105 = .ok (.putfield 18, 3) := bdX2_advance_81 (105, .putfield 18, 3) (List.mem_of_getElem? (i := 12) rfl)
theorem dX2_advance_108 : decode cX2_advance 108 = .ok (.aload_n 0, 1) := bdX2_advance_81 (108, .aload_n 0, 1) (List.mem_of_getElem? (i := 13) rfl)
theorem dX2_advance_109 : decode cX2_advance 109 = .ok (.aload_n 0, 1) := bdX2_advance_81 (109, .aload_n 0, 1) (List.mem_of_getElem? (i := 14) rfl)
theorem dX2_advance_110 : decode cX2_advance 110 = .ok (.getfield 22, 3) := bdX2_advance_81 (110, .getfield 22, 3) (List.mem_of_getElem? (i := 15) rfl)
theorem dX2_advance_113 : decode cX2_advance 113 = .ok (.putfield 25, 3) := bdX2_advance_81 (113, .putfield 25, 3) (List.mem_of_getElem? (i := 16) rfl)
theorem dX2_advance_116 : decode cX2_advance 116 = .ok (.aload_n 0, 1) := bdX2_advance_81 (116, .aload_n 0, 1) (List.mem_of_getElem? (i := 17) rfl)
theorem dX2_advance_117 : decode cX2_advance 117 = .ok (.getfield 18, 3) := bdX2_advance_81 (117, .getfield 18, 3) (List.mem_of_getElem? (i := 18) rfl)
theorem dX2_advance_120 : decode cX2_advance 120 = .ok (.iconst 3, 1) := bdX2_advance_81 (120, .iconst 3, 1) (List.mem_of_getElem? (i := 19) rfl)
theorem dX2_advance_121 : decode cX2_advance 121 = .ok (.if_icmp .ne 16, 3) := bdX2_advance_81 (121, .if_icmp .ne 16, 3) (List.mem_of_getElem? (i := 20) rfl)
theorem dX2_advance_124 : decode cX2_advance 124 = .ok (.aload_n 0, 1) := bdX2_advance_81 (124, .aload_n 0, 1) (List.mem_of_getElem? (i := 21) rfl)
theorem dX2_advance_125 : decode cX2_advance 125 = .ok (.aload_n 0, 1) := bdX2_advance_81 (125, .aload_n 0, 1) (List.mem_of_getElem? (i := 22) rfl)
theorem dX2_advance_126 : decode cX2_advance 126 = .ok (.getfield 22, 3) := bdX2_advance_81 (126, .getfield 22, 3) (List.mem_of_getElem? (i := 23) rfl)
theorem dX2_advance_129 : decode cX2_advance 129 = .ok (.iconst 1, 1) := bdX2_advance_81 (129, .iconst 1, 1) (List.mem_of_getElem? (i := 24) rfl)
theorem dX2_advance_130 : decode cX2_advance 130 = .ok (.iadd, 1) := bdX2_advance_81 (130, .iadd, 1) (List.mem_of_getElem? (i := 25) rfl)
theorem dX2_advance_131 : decode cX2_advance 131 = .ok (.putfield 25, 3) := bdX2_advance_81 (131, .putfield 25, 3) (List.mem_of_getElem? (i := 26) rfl)
theorem dX2_advance_134 : decode cX2_advance 134 = .ok (.goto 71, 3) := bdX2_advance_81 (134, .goto 71, 3) (List.mem_of_getElem? (i := 27) rfl)
theorem dX2_advance_137 : decode cX2_advance 137 = .ok (.aload_n 0, 1) := bdX2_advance_81 (137, .aload_n 0, 1) (List.mem_of_getElem? (i := 28) rfl)
theorem dX2_advance_138 : decode cX2_advance 138 = .ok (.getfield 18, 3) := bdX2_advance_81 (138, .getfield 18, 3) (List.mem_of_getElem? (i := 29) rfl)
theorem dX2_advance_141 : decode cX2_advance 141 = .ok (.ifCond .eq 64, 3) := bdX2_advance_81 (141, .ifCond .eq 64, 3) (List.mem_of_getElem? (i := 30) rfl)
theorem dX2_advance_144 : decode cX2_advance 144 = .ok (.aload_n 0, 1) := bdX2_advance_81 (144, .aload_n 0, 1) (List.mem_of_getElem? (i := 31) rfl)
theorem dX2_advance_145 : decode cX2_advance 145 = .ok (.getfield 25, 3) := bdX2_advance_81 (145, .getfield 25, 3) (List.mem_of_getElem? (i := 32) rfl)
theorem dX2_advance_148 : decode cX2_advance 148 = .ok (.aload_n 0, 1) := bdX2_advance_81 (148, .aload_n 0, 1) (List.mem_of_getElem? (i := 33) rfl)
theorem dX2_advance_149 : decode cX2_advance 149 = .ok (.getfield 12, 3) := bdX2_advance_81 (149, .getfield 12, 3) (List.mem_of_getElem? (i := 34) rfl)
theorem dX2_advance_152 : decode cX2_advance 152 = .ok (.getfield 69, 3) := bdX2_advance_81 (152, .getfield 69, 3) (List.mem_of_getElem? (i := 35) rfl)
theorem dX2_advance_155 : decode cX2_advance 155 = .ok (.if_icmp .ge 37, 3) := bdX2_advance_81 (155, .if_icmp .ge 37, 3) (List.mem_of_getElem? (i := 36) rfl)
theorem dX2_advance_158 : decode cX2_advance 158 = .ok (.aload_n 0, 1) := bdX2_advance_81 (158, .aload_n 0, 1) (List.mem_of_getElem? (i := 37) rfl)
theorem dX2_advance_159 : decode cX2_advance 159 = .ok (.getfield 12, 3) := bdX2_advance_81 (159, .getfield 12, 3) (List.mem_of_getElem? (i := 38) rfl)
theorem dX2_advance_162 : decode cX2_advance 162 = .ok (.aload_n 0, 1) := bdX2_advance_81 (162, .aload_n 0, 1) (List.mem_of_getElem? (i := 39) rfl)
theorem bdX2_advance_163 : ∀ q ∈ ([(163, .getfield 25, 3), (166, .invokevirtual 72, 3), (169, .invokestatic 76, 3), (172, .aload_n 0, 1), (173, .getfield 18, 3), (176, .if_icmp .ne 16, 3), (179, .aload_n 0, 1), (180, .dup, 1), (181, .getfield 25, 3), (184, .iconst 1, 1), (185, .iadd, 1), (186, .putfield 25, 3), (189, .goto (-45), 3), (192, .iload_n 1, 1), (193, .ifCond .eq 12, 3), (196, .iload_n 2, 1), (197, .ifCond .ne 8, 3), (200, .aload_n 0, 1), (201, .iconst 4, 1), (202, .putfield 18, 3), (205, .return_, 1)] : List (Nat × Jvm.ClassFile.Instr × Nat)), decode cX2_advance q.1 = .ok q.2 := chk_ok _ 163 _ rfl (by decide +kernel)
theorem dX2_advance_163 : decode cX2_advance 163 = .ok (.getfield 25, 3) := bdX2_advance_163 (163, .getfield 25, 3) (List.mem_of_getElem? (i := 0) rfl)
theorem dX2_advance_166 : decode cX2_advance 166 = .ok (.invokevirtual 72, 3) := bdX2_advance_163 (166, .invokevirtual 72, 3) (List.mem_of_getElem? (i := 1) rfl)
theorem dX2_advance_169 : decode cX2_advance 169 = .ok (.invokestatic 76, 3) := bdX2_advance_163 (169, .invokestatic 76, 3) (List.mem_of_getElem? (i := 2) rfl)
theorem dX2_advance_172 : decode cX2_advance 172 = .ok (.aload_n 0, 1) := bdX2_advance_163 (172, .aload_n 0, 1) (List.mem_of_getElem? (i := 3) rfl)
theorem dX2_advance_173 : decode cX2_advance 173 = .ok (.getfield 18, 3) := bdX2_advance_163 (173, .getfield 18, 3) (List.mem_of_getElem? (i := 4) rfl)
theorem dX2_advance_176 : decode cX2_advance 176 = .ok (.if_icmp .ne 16, 3) := bdX2_advance_163 (176, .if_icmp .ne 16, 3) (List.mem_of_getElem? (i := 5) rfl)
theorem dX2_advance_179 : decode cX2_advance 179 = .ok (.aload_n 0, 1) := bdX2_advance_163 (179, .aload_n 0, 1) (List.mem_of_getElem? (i := 6) rfl)
theorem dX2_advance_180 : decode cX2_advance 180 = .ok (.dup, 1) := bdX2_advance_163 (180, .dup, 1) (List.mem_of_getElem? (i := 7) rfl)
theorem dX2_advance_181 : decode cX2_advance 181 = .ok (.getfield 25, 3) := bdX2_advance_163 (181, .getfield 25, 3) (List.mem_of_getElem? (i := 8) rfl)
theorem dX2_advance_184 : decode cX2_advance 184 = .ok (.iconst 1, 1) := bdX2_advance_163 (184, .iconst 1, 1) (List.mem_of_getElem? (i := 9) rfl)
theorem dX2_advance_185 : decode cX2_advance 185 = .ok (.iadd, 1) := bdX2_advance_163 (185, .iadd, 1) (List.mem_of_getElem? (i := 10) rfl)
theorem dX2_advance_186 : decode cX2_advance 186 = .ok (.putfield 25, 3) := bdX2_advance_163 (186, .putfield 25, 3) (List.mem_of_getElem? (i := 11) rfl)
theorem dX2_advance_189 : decode cX2_advance 189 = .ok (.goto (-45), 3) := bdX2_advance_163 (189, .goto (-45), 3) (List.mem_of_getElem? (i := 12) rfl)
theorem dX2_advance_192 : decode cX2_advance 192 = .ok (.iload_n 1, 1) := bdX2_advance_163 (192, .iload_n 1, 1) (List.mem_of_getElem? (i := 13) rfl)
theorem dX2_advance_193 : decode cX2_advance 193 = .ok (.ifCond .eq 12, 3) := bdX2_advance_163 (193, .ifCond .eq 12, 3) (List.mem_of_getElem? (i := 14) rfl)
theorem dX2_advance_196 : decode cX2_advance 196 = .ok (.iload_n 2, 1) := bdX2_advance_163 (196, .iload_n 2, 1) (List.mem_of_getElem? (i := 15) rfl)
theorem dX2_advance_197 : decode cX2_advance 197 = .ok (.ifCond .ne 8, 3) := bdX2_advance_163 (197, .ifCond .ne 8, 3) (List.mem_of_getElem? (i := 16) rfl)
theorem dX2_advance_200 : decode cX2_advance 200 = .ok (.aload_n 0, 1) := bdX2_advance_163 (200, .aload_n 0, 1) (List.mem_of_getElem? (i := 17) rfl)
theorem dX2_advance_201 : decode cX2_advance 201 = .ok (.iconst 4, 1) := bdX2_advance_163 (201, .iconst 4, 1) (List.mem_of_getElem? (i := 18) rfl)
theorem dX2_advance_202 : decode cX2_advance 202 = .ok (.putfield 18, 3) := bdX2_advance_163 (202, .putfield 18, 3) (List.mem_of_getElem? (i := 19) rfl)
theorem dX2_advance_205 : decode cX2_advance 205 = .ok (.return_, 1) := bdX2_advance_163 (205, .return_, 1) (List.mem_of_getElem? (i := 20) rfl)
theorem fX2_69 : fldOK RX2 69 6 1 .int false := ⟨_, _, _, tyX6, ⟨rfl, iX6, by decide, rfl, by decide⟩, tw_191, ⟨tyX6_ok, nmX6⟩, by decide +kernel, rfl, rfl⟩
theorem kX2_72 : mthV RX2 72 6 yX6_at prog_8_method_3_code 2 (Option.some Jvm.ClassFile.FieldType.int) 1 := ⟨⟨⟨tw_644, tw_64, tw_647⟩, rfl, by decide +kernel⟩, tw_645, tw_646, rfl⟩
theorem kX2_76 : mthS RX2 76 yX2_sortOf prog_4_method_6_code 1 (Option.some Jvm.ClassFile.FieldType.int) 1 := ⟨⟨⟨tw_648, tw_63, tw_650⟩, rfl, by decide +kernel⟩, tw_649⟩
def BX2_advance_192 (ln : Nat → Nat) (post : HC → Prop) (S : HC) (x0 : Nat) (x1 : Int32) (x2 : Int32) : Prop := if x1 = 0 then (post S) else (if x2 = 0 then (lt_ (sI S x0 1 (4 : Int32)) fun S => post S) else (post S))
def LX2_advance_144 (ln : Nat → Nat) (post : HC → Prop) : Nat → HC → Nat → Int32 → Int32 → Prop
  | 0 => fun _ _ _ _ => False
  | n144 + 1 => fun S x0 x1 x2 => lt_ (hI S x0 3) fun z1 => dn_ (hR S x0 0) fun b2 => lt_ (hI S b2 1) fun z3 => if z3 ≤ z1 then (BX2_advance_192 ln post S x0 x1 x2) else (dn_ (hR S x0 0) fun b4 => lt_ (hI S x0 3) fun z5 => wpX6_at ln S b4 z5 fun z6 S => wpX2_sortOf ln S z6 fun z7 S => lt_ (hI S x0 1) fun z8 => if z7 = z8 then (lt_ (hI S x0 3) fun z9 => lt_ (z9 + (1 : Int32)) fun z10 => lt_ (sI S x0 3 z10) fun S => (LX2_advance_144 ln post n144) S x0 x1 x2) else (BX2_advance_192 ln post S x0 x1 x2))
def BX2_advance_89 (ln : Nat → Nat) (post : HC → Prop) (S : HC) (x0 : Nat) (x1 : Int32) (t0 : Int32) : Prop := dn_ (hR S x0 0) fun b11 => lt_ (hI S x0 2) fun z12 => wpX6_at ln S b11 z12 fun z13 S => wpX2_sortOf ln S z13 fun z14 S => lt_ (sI S x0 1 z14) fun S => lt_ (hI S x0 2) fun z15 => lt_ (sI S x0 3 z15) fun S => lt_ (hI S x0 1) fun z16 => if z16 = (3 : Int32) then (lt_ (hI S x0 2) fun z18 => lt_ (z18 + (1 : Int32)) fun z19 => lt_ (sI S x0 3 z19) fun S => post S) else (lt_ (hI S x0 1) fun z17 => if z17 = 0 then (post S) else (∃ n144, LX2_advance_144 ln post n144 S x0 x1 t0))
def BX2_advance_73 (ln : Nat → Nat) (post : HC → Prop) (S : HC) (x0 : Nat) (x1 : Int32) : Prop := lt_ (hI S x0 2) fun z20 => lt_ (hI S x0 3) fun z21 => if z20 ≤ z21 then (BX2_advance_89 ln post S x0 x1 (0 : Int32)) else (BX2_advance_89 ln post S x0 x1 (1 : Int32))
def LX2_advance_30 (ln : Nat → Nat) (post : HC → Prop) : Nat → HC → Nat → Int32 → Prop
  | 0 => fun _ _ _ => False
  | n30 + 1 => fun S x0 x1 => lt_ (hI S x0 2) fun z22 => dn_ (hR S x0 0) fun b23 => lt_ (hI S b23 1) fun z24 => if z24 ≤ z22 then (BX2_advance_73 ln post S x0 x1) else (dn_ (hR S x0 0) fun b25 => lt_ (hI S x0 2) fun z26 => wpX6_at ln S b25 z26 fun z27 S => if z27 = (32 : Int32) then (lt_ (hI S x0 2) fun z28 => lt_ (z28 + (1 : Int32)) fun z29 => lt_ (sI S x0 2 z29) fun S => (LX2_advance_30 ln post n30) S x0 x1) else (BX2_advance_73 ln post S x0 x1))
def BX2_advance_21 (ln : Nat → Nat) (post : HC → Prop) (S : HC) (x0 : Nat) (t0 : Int32) : Prop := lt_ (hI S x0 3) fun z30 => lt_ (sI S x0 2 z30) fun S => ∃ n30, LX2_advance_30 ln post n30 S x0 t0
def BX2_advance_16 (ln : Nat → Nat) (post : HC → Prop) (S : HC) (x0 : Nat) : Prop := BX2_advance_21 ln post S x0 (1 : Int32)
def wpX2_advance (ln : Nat → Nat) (S : HC) (a0 : Nat) (post : HC → Prop) : Prop := lt_ (hI S a0 1) fun z31 => if z31 = (1 : Int32) then (BX2_advance_16 ln post S a0) else (lt_ (hI S a0 1) fun z32 => if z32 = (2 : Int32) then (BX2_advance_16 ln post S a0) else (BX2_advance_21 ln post S a0 (0 : Int32)))
abbrev rmX2_advance : Room := { frames := 1, cells := 0, slots := 0, locals := 21 }
set_option maxHeartbeats 4000000 in
set_option maxRecDepth 100000 in
theorem ctX2_advance {l : Launch} {g : GX} {N : Nat} {ln : Nat → Nat} {S : HC} {a0 : Nat} {post : HC → Prop} (hr_a0 : a0 < N) (hk_a0 : kd a0 = 2) (h : wpX2_advance ln S a0 post) : Met l yX2_advance (Cond.code yX2_advance prog_4_method_5_code 3 (Option.none : Option Jvm.ClassFile.FieldType) :: gtbl) rmX2_advance (va_Pc [.ref (gz g + a0)] (AtP g N ln S)) (QV g N ln post) 0 0 (gF g) := by
  refine m_of (by decide) (Nat.le_of_ble_eq_true rfl) ?_
  intro p e s m below meth c ls F hr I hl
  have hl : lv_has ls 3 [(0, .ref (gz g + a0))] := hl
  unfold wpX2_advance at h
  have hj_192 : ∀ (S : HC) (H : Heap) (locs : List Loc) (ls : Array Slot) (x0 : Nat) (x1 : Int32) (x2 : Int32), x0 < N → kd x0 = 2 → BX2_advance_192 ln post S x0 x1 x2 → Inv g N ln S s H locs → lv_has ls 3 [(0, .ref (gz g + x0)), (1, .int x1), (2, .int x2)] → W p l e rmX2_advance s m ([.ref (gz g + a0)] : List Value).toArray below meth c H locs 0 0 (MQ below (QV g N ln post) ([.ref (gz g + a0)] : List Value).toArray s 0 0 (gF g)) (F0 m 192 ls []) := by
    intro S H locs ls x0 x1 x2 hr_x0 hk_x0 h I hl
    unfold BX2_advance_192 at h
    refine lv_iload_n F.1 F.2.1 dX2_advance_192 rfl (lv_at hl 1 rfl) ?_
    refine r_if_eq (tgt := 205) F dX2_advance_193 (by decide) h (fun h => ?_) (fun h => ?_)
    · exact r_vreturn F I ⟨hr.1, hr.2.1, trivial⟩ h dX2_advance_205
    · refine lv_iload_n F.1 F.2.1 dX2_advance_196 rfl (lv_at hl 2 rfl) ?_
      refine r_if_ne (tgt := 205) F dX2_advance_197 (by decide) h (fun h => ?_) (fun h => ?_)
      · exact r_vreturn F I ⟨hr.1, hr.2.1, trivial⟩ h dX2_advance_205
      · refine lv_aload_n F.1 F.2.1 dX2_advance_200 rfl (lv_at hl 0 rfl) ?_
        refine lv_iconst (v := 4) F.1 F.2.1 dX2_advance_201 (by decide) ?_
        refine r_putI F I hr_x0 hk_x0 fX2_18 rfl (Or.inl rfl) ⟨rfl, rfl⟩ dX2_advance_202 h (fun S H locs I h => ?_)
        exact r_vreturn F I ⟨hr.1, hr.2.1, trivial⟩ h dX2_advance_205
  have hl_144 : ∀ n144 : Nat, ∀ (S : HC) (H : Heap) (locs : List Loc) (ls : Array Slot) (x0 : Nat) (x1 : Int32) (x2 : Int32), x0 < N → kd x0 = 2 → LX2_advance_144 ln post n144 S x0 x1 x2 → Inv g N ln S s H locs → lv_has ls 3 [(0, .ref (gz g + x0)), (1, .int x1), (2, .int x2)] → W p l e rmX2_advance s m ([.ref (gz g + a0)] : List Value).toArray below meth c H locs 0 0 (MQ below (QV g N ln post) ([.ref (gz g + a0)] : List Value).toArray s 0 0 (gF g)) (F0 m 144 ls []) := by
    intro n144
    induction n144 with
    | zero =>
      intro S H locs ls x0 x1 x2 hr_x0 hk_x0 h I hl
      exact h.elim
    | succ n144 ih =>
      have hk144 := ih
      intro S H locs ls x0 x1 x2 hr_x0 hk_x0 h I hl
      rw [LX2_advance_144] at h
      refine lv_aload_n F.1 F.2.1 dX2_advance_144 rfl (lv_at hl 0 rfl) ?_
      refine r_getI F I hr_x0 hk_x0 fX2_25 rfl dX2_advance_145 h (fun z1 h => ?_)
      refine lv_aload_n F.1 F.2.1 dX2_advance_148 rfl (lv_at hl 0 rfl) ?_
      refine r_getN F I hr_x0 hk_x0 fX2_12 (f := 6) rfl (by decide) dX2_advance_149 h (fun b2 hr_b2 hk_b2 h => ?_)
      refine r_getI F I hr_b2 hk_b2 fX2_69 rfl dX2_advance_152 h (fun z3 h => ?_)
      refine r_icmp_ge (tgt := 192) F dX2_advance_155 (by decide) h (fun h => ?_) (fun h => ?_)
      · exact hj_192 S _ _ _ x0 x1 x2 hr_x0 hk_x0 h I (lv_sub hl [0, 1, 2] rfl)
      · refine lv_aload_n F.1 F.2.1 dX2_advance_158 rfl (lv_at hl 0 rfl) ?_
        refine r_getN F I hr_x0 hk_x0 fX2_12 (f := 6) rfl (by decide) dX2_advance_159 h (fun b4 hr_b4 hk_b4 h => ?_)
        refine lv_aload_n F.1 F.2.1 dX2_advance_162 rfl (lv_at hl 0 rfl) ?_
        refine r_getI F I hr_x0 hk_x0 fX2_25 rfl dX2_advance_163 h (fun z5 h => ?_)
        refine g_I I (run_V (As := [.int z5]) (rest := []) F I hr_b4 hk_b4 (by decide) kX2_72 (ctX6_at hr_b4 hk_b4 h) ⟨rfl, rfl⟩ ⟨Nat.le_of_ble_eq_true rfl, Nat.le_of_ble_eq_true rfl⟩ rfl hl.1 rfl (Nat.le_of_ble_eq_true rfl) ⟨Nat.le_of_ble_eq_true rfl, Nat.le_of_ble_eq_true rfl⟩ dX2_advance_166) (fun z6 S H locs I h => ?_)
        refine g_I I (run_S (As := [.int z6]) (rest := []) F I kX2_76 (ctX2_sortOf h) ⟨rfl, rfl⟩ ⟨Nat.le_of_ble_eq_true rfl, Nat.le_of_ble_eq_true rfl⟩ rfl hl.1 rfl (Nat.le_of_ble_eq_true rfl) ⟨Nat.le_of_ble_eq_true rfl, Nat.le_of_ble_eq_true rfl⟩ dX2_advance_169) (fun z7 S H locs I h => ?_)
        refine lv_aload_n F.1 F.2.1 dX2_advance_172 rfl (lv_at hl 0 rfl) ?_
        refine r_getI F I hr_x0 hk_x0 fX2_18 rfl dX2_advance_173 h (fun z8 h => ?_)
        refine r_icmp_ne (tgt := 192) F dX2_advance_176 (by decide) h (fun h => ?_) (fun h => ?_)
        · exact hj_192 S _ _ _ x0 x1 x2 hr_x0 hk_x0 h I (lv_sub hl [0, 1, 2] rfl)
        · refine lv_aload_n F.1 F.2.1 dX2_advance_179 rfl (lv_at hl 0 rfl) ?_
          refine lv_dup F.1 F.2.1 dX2_advance_180 rfl ?_
          refine r_getI F I hr_x0 hk_x0 fX2_25 rfl dX2_advance_181 h (fun z9 h => ?_)
          refine lv_iconst (v := 1) F.1 F.2.1 dX2_advance_184 (by decide) ?_
          refine r_iadd F dX2_advance_185 h (fun z10 h => ?_)
          refine r_putI F I hr_x0 hk_x0 fX2_25 rfl (Or.inl rfl) ⟨rfl, rfl⟩ dX2_advance_186 h (fun S H locs I h => ?_)
          refine lv_goto (tgt := 144) F.1 F.2.1 dX2_advance_189 (by decide) ?_
          exact hk144 S _ _ _ x0 x1 x2 hr_x0 hk_x0 h I (lv_sub hl [0, 1, 2] rfl)
  have hj_89 : ∀ (S : HC) (H : Heap) (locs : List Loc) (ls : Array Slot) (x0 : Nat) (x1 : Int32) (t0 : Int32), x0 < N → kd x0 = 2 → BX2_advance_89 ln post S x0 x1 t0 → Inv g N ln S s H locs → lv_has ls 3 [(0, .ref (gz g + x0)), (1, .int x1)] → W p l e rmX2_advance s m ([.ref (gz g + a0)] : List Value).toArray below meth c H locs 0 0 (MQ below (QV g N ln post) ([.ref (gz g + a0)] : List Value).toArray s 0 0 (gF g)) (F0 m 89 ls [.int t0]) := by
    intro S H locs ls x0 x1 t0 hr_x0 hk_x0 h I hl
    unfold BX2_advance_89 at h
    refine lv_istore_n (lv' := [(2, .int t0), (0, .ref (gz g + x0)), (1, .int x1)]) F.1 F.2.1 dX2_advance_89 rfl hl (by decide) rfl (fun ls hl => ?_)
    refine lv_aload_n F.1 F.2.1 dX2_advance_90 rfl (lv_at hl 1 rfl) ?_
    refine lv_aload_n F.1 F.2.1 dX2_advance_91 rfl (lv_at hl 1 rfl) ?_
    refine r_getN F I hr_x0 hk_x0 fX2_12 (f := 6) rfl (by decide) dX2_advance_92 h (fun b11 hr_b11 hk_b11 h => ?_)
    refine lv_aload_n F.1 F.2.1 dX2_advance_95 rfl (lv_at hl 1 rfl) ?_
    refine r_getI F I hr_x0 hk_x0 fX2_22 rfl dX2_advance_96 h (fun z12 h => ?_)
    refine g_I I (run_V (As := [.int z12]) (rest := [.ref (gz g + x0)]) F I hr_b11 hk_b11 (by decide) kX2_72 (ctX6_at hr_b11 hk_b11 h) ⟨rfl, rfl⟩ ⟨Nat.le_of_ble_eq_true rfl, Nat.le_of_ble_eq_true rfl⟩ rfl hl.1 rfl (Nat.le_of_ble_eq_true rfl) ⟨Nat.le_of_ble_eq_true rfl, Nat.le_of_ble_eq_true rfl⟩ dX2_advance_99) (fun z13 S H locs I h => ?_)
    refine g_I I (run_S (As := [.int z13]) (rest := [.ref (gz g + x0)]) F I kX2_76 (ctX2_sortOf h) ⟨rfl, rfl⟩ ⟨Nat.le_of_ble_eq_true rfl, Nat.le_of_ble_eq_true rfl⟩ rfl hl.1 rfl (Nat.le_of_ble_eq_true rfl) ⟨Nat.le_of_ble_eq_true rfl, Nat.le_of_ble_eq_true rfl⟩ dX2_advance_102) (fun z14 S H locs I h => ?_)
    refine r_putI F I hr_x0 hk_x0 fX2_18 rfl (Or.inl rfl) ⟨rfl, rfl⟩ dX2_advance_105 h (fun S H locs I h => ?_)
    refine lv_aload_n F.1 F.2.1 dX2_advance_108 rfl (lv_at hl 1 rfl) ?_
    refine lv_aload_n F.1 F.2.1 dX2_advance_109 rfl (lv_at hl 1 rfl) ?_
    refine r_getI F I hr_x0 hk_x0 fX2_22 rfl dX2_advance_110 h (fun z15 h => ?_)
    refine r_putI F I hr_x0 hk_x0 fX2_25 rfl (Or.inl rfl) ⟨rfl, rfl⟩ dX2_advance_113 h (fun S H locs I h => ?_)
    refine lv_aload_n F.1 F.2.1 dX2_advance_116 rfl (lv_at hl 1 rfl) ?_
    refine r_getI F I hr_x0 hk_x0 fX2_18 rfl dX2_advance_117 h (fun z16 h => ?_)
    refine lv_iconst (v := 3) F.1 F.2.1 dX2_advance_120 (by decide) ?_
    refine r_icmp_ne (tgt := 137) F dX2_advance_121 (by decide) h (fun h => ?_) (fun h => ?_)
    · refine lv_aload_n F.1 F.2.1 dX2_advance_137 rfl (lv_at hl 1 rfl) ?_
      refine r_getI F I hr_x0 hk_x0 fX2_18 rfl dX2_advance_138 h (fun z17 h => ?_)
      refine r_if_eq (tgt := 205) F dX2_advance_141 (by decide) h (fun h => ?_) (fun h => ?_)
      · exact r_vreturn F I ⟨hr.1, hr.2.1, trivial⟩ h dX2_advance_205
      · obtain ⟨n144, h⟩ := h
        exact hl_144 n144 S _ _ _ x0 x1 t0 hr_x0 hk_x0 h I (lv_sub hl [1, 2, 0] rfl)
    · refine lv_aload_n F.1 F.2.1 dX2_advance_124 rfl (lv_at hl 1 rfl) ?_
      refine lv_aload_n F.1 F.2.1 dX2_advance_125 rfl (lv_at hl 1 rfl) ?_
      refine r_getI F I hr_x0 hk_x0 fX2_22 rfl dX2_advance_126 h (fun z18 h => ?_)
      refine lv_iconst (v := 1) F.1 F.2.1 dX2_advance_129 (by decide) ?_
      refine r_iadd F dX2_advance_130 h (fun z19 h => ?_)
      refine r_putI F I hr_x0 hk_x0 fX2_25 rfl (Or.inl rfl) ⟨rfl, rfl⟩ dX2_advance_131 h (fun S H locs I h => ?_)
      refine lv_goto (tgt := 205) F.1 F.2.1 dX2_advance_134 (by decide) ?_
      exact r_vreturn F I ⟨hr.1, hr.2.1, trivial⟩ h dX2_advance_205
  have hj_73 : ∀ (S : HC) (H : Heap) (locs : List Loc) (ls : Array Slot) (x0 : Nat) (x1 : Int32), x0 < N → kd x0 = 2 → BX2_advance_73 ln post S x0 x1 → Inv g N ln S s H locs → lv_has ls 3 [(0, .ref (gz g + x0)), (1, .int x1)] → W p l e rmX2_advance s m ([.ref (gz g + a0)] : List Value).toArray below meth c H locs 0 0 (MQ below (QV g N ln post) ([.ref (gz g + a0)] : List Value).toArray s 0 0 (gF g)) (F0 m 73 ls []) := by
    intro S H locs ls x0 x1 hr_x0 hk_x0 h I hl
    unfold BX2_advance_73 at h
    refine lv_aload_n F.1 F.2.1 dX2_advance_73 rfl (lv_at hl 0 rfl) ?_
    refine r_getI F I hr_x0 hk_x0 fX2_22 rfl dX2_advance_74 h (fun z20 h => ?_)
    refine lv_aload_n F.1 F.2.1 dX2_advance_77 rfl (lv_at hl 0 rfl) ?_
    refine r_getI F I hr_x0 hk_x0 fX2_25 rfl dX2_advance_78 h (fun z21 h => ?_)
    refine r_icmp_le (tgt := 88) F dX2_advance_81 (by decide) h (fun h => ?_) (fun h => ?_)
    · refine lv_iconst (v := 0) F.1 F.2.1 dX2_advance_88 (by decide) ?_
      exact hj_89 S _ _ _ x0 x1 (0 : Int32) hr_x0 hk_x0 h I (lv_sub hl [0, 1] rfl)
    · refine lv_iconst (v := 1) F.1 F.2.1 dX2_advance_84 (by decide) ?_
      refine lv_goto (tgt := 89) F.1 F.2.1 dX2_advance_85 (by decide) ?_
      exact hj_89 S _ _ _ x0 x1 (1 : Int32) hr_x0 hk_x0 h I (lv_sub hl [0, 1] rfl)
  have hl_30 : ∀ n30 : Nat, ∀ (S : HC) (H : Heap) (locs : List Loc) (ls : Array Slot) (x0 : Nat) (x1 : Int32), x0 < N → kd x0 = 2 → LX2_advance_30 ln post n30 S x0 x1 → Inv g N ln S s H locs → lv_has ls 3 [(0, .ref (gz g + x0)), (1, .int x1)] → W p l e rmX2_advance s m ([.ref (gz g + a0)] : List Value).toArray below meth c H locs 0 0 (MQ below (QV g N ln post) ([.ref (gz g + a0)] : List Value).toArray s 0 0 (gF g)) (F0 m 30 ls []) := by
    intro n30
    induction n30 with
    | zero =>
      intro S H locs ls x0 x1 hr_x0 hk_x0 h I hl
      exact h.elim
    | succ n30 ih =>
      have hk30 := ih
      intro S H locs ls x0 x1 hr_x0 hk_x0 h I hl
      rw [LX2_advance_30] at h
      refine lv_aload_n F.1 F.2.1 dX2_advance_30 rfl (lv_at hl 0 rfl) ?_
      refine r_getI F I hr_x0 hk_x0 fX2_22 rfl dX2_advance_31 h (fun z22 h => ?_)
      refine lv_aload_n F.1 F.2.1 dX2_advance_34 rfl (lv_at hl 0 rfl) ?_
      refine r_getN F I hr_x0 hk_x0 fX2_12 (f := 6) rfl (by decide) dX2_advance_35 h (fun b23 hr_b23 hk_b23 h => ?_)
      refine r_getI F I hr_b23 hk_b23 fX2_69 rfl dX2_advance_38 h (fun z24 h => ?_)
      refine r_icmp_ge (tgt := 73) F dX2_advance_41 (by decide) h (fun h => ?_) (fun h => ?_)
      · exact hj_73 S _ _ _ x0 x1 hr_x0 hk_x0 h I (lv_sub hl [0, 1] rfl)
      · refine lv_aload_n F.1 F.2.1 dX2_advance_44 rfl (lv_at hl 0 rfl) ?_
        refine r_getN F I hr_x0 hk_x0 fX2_12 (f := 6) rfl (by decide) dX2_advance_45 h (fun b25 hr_b25 hk_b25 h => ?_)
        refine lv_aload_n F.1 F.2.1 dX2_advance_48 rfl (lv_at hl 0 rfl) ?_
        refine r_getI F I hr_x0 hk_x0 fX2_22 rfl dX2_advance_49 h (fun z26 h => ?_)
        refine g_I I (run_V (As := [.int z26]) (rest := []) F I hr_b25 hk_b25 (by decide) kX2_72 (ctX6_at hr_b25 hk_b25 h) ⟨rfl, rfl⟩ ⟨Nat.le_of_ble_eq_true rfl, Nat.le_of_ble_eq_true rfl⟩ rfl hl.1 rfl (Nat.le_of_ble_eq_true rfl) ⟨Nat.le_of_ble_eq_true rfl, Nat.le_of_ble_eq_true rfl⟩ dX2_advance_52) (fun z27 S H locs I h => ?_)
        refine lv_bipush (v := 32) F.1 F.2.1 dX2_advance_55 (by decide) ?_
        refine r_icmp_ne (tgt := 73) F dX2_advance_57 (by decide) h (fun h => ?_) (fun h => ?_)
        · exact hj_73 S _ _ _ x0 x1 hr_x0 hk_x0 h I (lv_sub hl [0, 1] rfl)
        · refine lv_aload_n F.1 F.2.1 dX2_advance_60 rfl (lv_at hl 0 rfl) ?_
          refine lv_dup F.1 F.2.1 dX2_advance_61 rfl ?_
          refine r_getI F I hr_x0 hk_x0 fX2_22 rfl dX2_advance_62 h (fun z28 h => ?_)
          refine lv_iconst (v := 1) F.1 F.2.1 dX2_advance_65 (by decide) ?_
          refine r_iadd F dX2_advance_66 h (fun z29 h => ?_)
          refine r_putI F I hr_x0 hk_x0 fX2_22 rfl (Or.inl rfl) ⟨rfl, rfl⟩ dX2_advance_67 h (fun S H locs I h => ?_)
          refine lv_goto (tgt := 30) F.1 F.2.1 dX2_advance_70 (by decide) ?_
          exact hk30 S _ _ _ x0 x1 hr_x0 hk_x0 h I (lv_sub hl [0, 1] rfl)
  have hj_21 : ∀ (S : HC) (H : Heap) (locs : List Loc) (ls : Array Slot) (x0 : Nat) (t0 : Int32), x0 < N → kd x0 = 2 → BX2_advance_21 ln post S x0 t0 → Inv g N ln S s H locs → lv_has ls 3 [(0, .ref (gz g + x0))] → W p l e rmX2_advance s m ([.ref (gz g + a0)] : List Value).toArray below meth c H locs 0 0 (MQ below (QV g N ln post) ([.ref (gz g + a0)] : List Value).toArray s 0 0 (gF g)) (F0 m 21 ls [.int t0]) := by
    intro S H locs ls x0 t0 hr_x0 hk_x0 h I hl
    unfold BX2_advance_21 at h
    refine lv_istore_n (lv' := [(1, .int t0), (0, .ref (gz g + x0))]) F.1 F.2.1 dX2_advance_21 rfl hl (by decide) rfl (fun ls hl => ?_)
    refine lv_aload_n F.1 F.2.1 dX2_advance_22 rfl (lv_at hl 1 rfl) ?_
    refine lv_aload_n F.1 F.2.1 dX2_advance_23 rfl (lv_at hl 1 rfl) ?_
    refine r_getI F I hr_x0 hk_x0 fX2_25 rfl dX2_advance_24 h (fun z30 h => ?_)
    refine r_putI F I hr_x0 hk_x0 fX2_22 rfl (Or.inl rfl) ⟨rfl, rfl⟩ dX2_advance_27 h (fun S H locs I h => ?_)
    obtain ⟨n30, h⟩ := h
    exact hl_30 n30 S _ _ _ x0 t0 hr_x0 hk_x0 h I (lv_sub hl [1, 0] rfl)
  have hj_16 : ∀ (S : HC) (H : Heap) (locs : List Loc) (ls : Array Slot) (x0 : Nat), x0 < N → kd x0 = 2 → BX2_advance_16 ln post S x0 → Inv g N ln S s H locs → lv_has ls 3 [(0, .ref (gz g + x0))] → W p l e rmX2_advance s m ([.ref (gz g + a0)] : List Value).toArray below meth c H locs 0 0 (MQ below (QV g N ln post) ([.ref (gz g + a0)] : List Value).toArray s 0 0 (gF g)) (F0 m 16 ls []) := by
    intro S H locs ls x0 hr_x0 hk_x0 h I hl
    unfold BX2_advance_16 at h
    refine lv_iconst (v := 1) F.1 F.2.1 dX2_advance_16 (by decide) ?_
    refine lv_goto (tgt := 21) F.1 F.2.1 dX2_advance_17 (by decide) ?_
    exact hj_21 S _ _ _ x0 (1 : Int32) hr_x0 hk_x0 h I (lv_sub hl [0] rfl)
  refine lv_aload_n F.1 F.2.1 dX2_advance_0 rfl (lv_at hl 0 rfl) ?_
  refine r_getI F I hr_a0 hk_a0 fX2_18 rfl dX2_advance_1 h (fun z31 h => ?_)
  refine lv_iconst (v := 1) F.1 F.2.1 dX2_advance_4 (by decide) ?_
  refine r_icmp_eq (tgt := 16) F dX2_advance_5 (by decide) h (fun h => ?_) (fun h => ?_)
  · exact hj_16 S _ _ _ a0 hr_a0 hk_a0 h I (lv_sub hl [0] rfl)
  · refine lv_aload_n F.1 F.2.1 dX2_advance_8 rfl (lv_at hl 0 rfl) ?_
    refine r_getI F I hr_a0 hk_a0 fX2_18 rfl dX2_advance_9 h (fun z32 h => ?_)
    refine lv_iconst (v := 2) F.1 F.2.1 dX2_advance_12 (by decide) ?_
    refine r_icmp_ne (tgt := 20) F dX2_advance_13 (by decide) h (fun h => ?_) (fun h => ?_)
    · refine lv_iconst (v := 0) F.1 F.2.1 dX2_advance_20 (by decide) ?_
      exact hj_21 S _ _ _ a0 (0 : Int32) hr_a0 hk_a0 h I (lv_sub hl [0] rfl)
    · exact hj_16 S _ _ _ a0 hr_a0 hk_a0 h I (lv_sub hl [0] rfl)
theorem bdX2_isSign_0 : ∀ q ∈ ([(0, .aload_n 0, 1), (1, .getfield 18, 3), (4, .iconst 3, 1), (5, .if_icmp .ne 22, 3), (8, .aload_n 0, 1), (9, .getfield 12, 3), (12, .aload_n 0, 1), (13, .getfield 22, 3), (16, .invokevirtual 72, 3), (19, .iload_n 1, 1), (20, .if_icmp .ne 7, 3), (23, .iconst 1, 1), (24, .goto 4, 3), (27, .iconst 0, 1), (28, .ireturn, 1)] : List (Nat × Jvm.ClassFile.Instr × Nat)), decode cX2_isSign q.1 = .ok q.2 := chk_ok _ 0 _ rfl (by decide +kernel)
theorem dX2_isSign_0 : decode cX2_isSign 0 = .ok (.aload_n 0, 1) := bdX2_isSign_0 (0, .aload_n 0, 1) (List.mem_of_getElem? (i := 0) rfl)
theorem dX2_isSign_1 : decode cX2_isSign 1 = .ok (.getfield 18, 3) := bdX2_isSign_0 (1, .getfield 18, 3) (List.mem_of_getElem? (i := 1) rfl)
theorem dX2_isSign_4 : decode cX2_isSign 4 = .ok (.iconst 3, 1) := bdX2_isSign_0 (4, .iconst 3, 1) (List.mem_of_getElem? (i := 2) rfl)
theorem dX2_isSign_5 : decode cX2_isSign 5 = .ok (.if_icmp .ne 22, 3) := bdX2_isSign_0 (5, .if_icmp .ne 22, 3) (List.mem_of_getElem? (i := 3) rfl)
theorem dX2_isSign_8 : decode cX2_isSign 8 = .ok (.aload_n 0, 1) := bdX2_isSign_0 (8, .aload_n 0, 1) (List.mem_of_getElem? (i := 4) rfl)
theorem dX2_isSign_9 : decode cX2_isSign 9 = .ok (.getfield 12, 3) := bdX2_isSign_0 (9, .getfield 12, 3) (List.mem_of_getElem? (i := 5) rfl)
theorem dX2_isSign_12 : decode cX2_isSign 12 = .ok (.aload_n 0, 1) := bdX2_isSign_0 (12, .aload_n 0, 1) (List.mem_of_getElem? (i := 6) rfl)
theorem dX2_isSign_13 : decode cX2_isSign 13 = .ok (.getfield 22, 3) := bdX2_isSign_0 (13, .getfield 22, 3) (List.mem_of_getElem? (i := 7) rfl)
theorem dX2_isSign_16 : decode cX2_isSign 16 = .ok (.invokevirtual 72, 3) := bdX2_isSign_0 (16, .invokevirtual 72, 3) (List.mem_of_getElem? (i := 8) rfl)
theorem dX2_isSign_19 : decode cX2_isSign 19 = .ok (.iload_n 1, 1) := bdX2_isSign_0 (19, .iload_n 1, 1) (List.mem_of_getElem? (i := 9) rfl)
theorem dX2_isSign_20 : decode cX2_isSign 20 = .ok (.if_icmp .ne 7, 3) := bdX2_isSign_0 (20, .if_icmp .ne 7, 3) (List.mem_of_getElem? (i := 10) rfl)
theorem dX2_isSign_23 : decode cX2_isSign 23 = .ok (.iconst 1, 1) := bdX2_isSign_0 (23, .iconst 1, 1) (List.mem_of_getElem? (i := 11) rfl)
theorem dX2_isSign_24 : decode cX2_isSign 24 = .ok (.goto 4, 3) := bdX2_isSign_0 (24, .goto 4, 3) (List.mem_of_getElem? (i := 12) rfl)
theorem dX2_isSign_27 : decode cX2_isSign 27 = .ok (.iconst 0, 1) := bdX2_isSign_0 (27, .iconst 0, 1) (List.mem_of_getElem? (i := 13) rfl)
theorem dX2_isSign_28 : decode cX2_isSign 28 = .ok (.ireturn, 1) := bdX2_isSign_0 (28, .ireturn, 1) (List.mem_of_getElem? (i := 14) rfl)
def BX2_isSign_27 (ln : Nat → Nat) (post : Int32 → HC → Prop) (S : HC)  : Prop := rb_ .boolean (0 : Int32) (post (0 : Int32) S)
def wpX2_isSign (ln : Nat → Nat) (S : HC) (a0 : Nat) (a1 : Int32) (post : Int32 → HC → Prop) : Prop := lt_ (hI S a0 1) fun z1 => if z1 = (3 : Int32) then (dn_ (hR S a0 0) fun b2 => lt_ (hI S a0 2) fun z3 => wpX6_at ln S b2 z3 fun z4 S => if z4 = a1 then (rb_ .boolean (1 : Int32) (post (1 : Int32) S)) else (BX2_isSign_27 ln post S)) else (BX2_isSign_27 ln post S)
abbrev rmX2_isSign : Room := { frames := 1, cells := 0, slots := 0, locals := 21 }
set_option maxHeartbeats 4000000 in
set_option maxRecDepth 100000 in
theorem ctX2_isSign {l : Launch} {g : GX} {N : Nat} {ln : Nat → Nat} {S : HC} {a0 : Nat} {a1 : Int32} {post : Int32 → HC → Prop} (hr_a0 : a0 < N) (hk_a0 : kd a0 = 2) (h : wpX2_isSign ln S a0 a1 post) : Met l yX2_isSign (Cond.code yX2_isSign prog_4_method_9_code 2 (Option.some Jvm.ClassFile.FieldType.boolean) :: gtbl) rmX2_isSign (va_Pc [.ref (gz g + a0), .int a1] (AtP g N ln S)) (QI g N ln post) 0 0 (gF g) := by
  refine m_of (by decide) (Nat.le_of_ble_eq_true rfl) ?_
  intro p e s m below meth c ls F hr I hl
  have hl : lv_has ls 2 [(0, .ref (gz g + a0)), (1, .int a1)] := hl
  unfold wpX2_isSign at h
  have hj_27 : ∀ (S : HC) (H : Heap) (locs : List Loc) (ls : Array Slot), BX2_isSign_27 ln post S  → Inv g N ln S s H locs → lv_has ls 2 [] → W p l e rmX2_isSign s m ([.ref (gz g + a0), .int a1] : List Value).toArray below meth c H locs 0 0 (MQ below (QI g N ln post) ([.ref (gz g + a0), .int a1] : List Value).toArray s 0 0 (gF g)) (F0 m 27 ls []) := by
    intro S H locs ls h I hl
    unfold BX2_isSign_27 at h
    refine lv_iconst (v := 0) F.1 F.2.1 dX2_isSign_27 (by decide) ?_
    exact r_zreturn F I ⟨hr.1, hr.2.1, trivial⟩ h dX2_isSign_28
  refine lv_aload_n F.1 F.2.1 dX2_isSign_0 rfl (lv_at hl 0 rfl) ?_
  refine r_getI F I hr_a0 hk_a0 fX2_18 rfl dX2_isSign_1 h (fun z1 h => ?_)
  refine lv_iconst (v := 3) F.1 F.2.1 dX2_isSign_4 (by decide) ?_
  refine r_icmp_ne (tgt := 27) F dX2_isSign_5 (by decide) h (fun h => ?_) (fun h => ?_)
  · exact hj_27 S _ _ _   h I (lv_sub hl [] rfl)
  · refine lv_aload_n F.1 F.2.1 dX2_isSign_8 rfl (lv_at hl 0 rfl) ?_
    refine r_getN F I hr_a0 hk_a0 fX2_12 (f := 6) rfl (by decide) dX2_isSign_9 h (fun b2 hr_b2 hk_b2 h => ?_)
    refine lv_aload_n F.1 F.2.1 dX2_isSign_12 rfl (lv_at hl 0 rfl) ?_
    refine r_getI F I hr_a0 hk_a0 fX2_22 rfl dX2_isSign_13 h (fun z3 h => ?_)
    refine g_I I (run_V (As := [.int z3]) (rest := []) F I hr_b2 hk_b2 (by decide) kX2_72 (ctX6_at hr_b2 hk_b2 h) ⟨rfl, rfl⟩ ⟨Nat.le_of_ble_eq_true rfl, Nat.le_of_ble_eq_true rfl⟩ rfl hl.1 rfl (Nat.le_of_ble_eq_true rfl) ⟨Nat.le_of_ble_eq_true rfl, Nat.le_of_ble_eq_true rfl⟩ dX2_isSign_16) (fun z4 S H locs I h => ?_)
    refine lv_iload_n F.1 F.2.1 dX2_isSign_19 rfl (lv_at hl 1 rfl) ?_
    refine r_icmp_ne (tgt := 27) F dX2_isSign_20 (by decide) h (fun h => ?_) (fun h => ?_)
    · exact hj_27 S _ _ _   h I (lv_sub hl [] rfl)
    · refine lv_iconst (v := 1) F.1 F.2.1 dX2_isSign_23 (by decide) ?_
      refine lv_goto (tgt := 28) F.1 F.2.1 dX2_isSign_24 (by decide) ?_
      exact r_zreturn F I ⟨hr.1, hr.2.1, trivial⟩ h dX2_isSign_28
theorem bdX2_levelHere_0 : ∀ q ∈ ([(0, .aload_n 0, 1), (1, .getfield 18, 3), (4, .iconst 3, 1), (5, .if_icmp .eq 5, 3), (8, .iconst (-1), 1), (9, .ireturn, 1), (10, .aload_n 0, 1), (11, .getfield 12, 3), (14, .aload_n 0, 1), (15, .getfield 22, 3), (18, .invokevirtual 72, 3), (104, .iconst 0, 1), (105, .ireturn, 1), (106, .iconst 1, 1), (107, .ireturn, 1), (108, .iconst 2, 1), (109, .ireturn, 1), (110, .iconst 3, 1), (111, .ireturn, 1), (112, .iconst 4, 1), (113, .ireturn, 1), (114, .iconst (-1), 1), (115, .ireturn, 1)] : List (Nat × Jvm.ClassFile.Instr × Nat)), decode cX2_levelHere q.1 = .ok q.2 := chk_ok _ 0 _ rfl (by decide +kernel)
theorem dX2_levelHere_0 : decode cX2_levelHere 0 = .ok (.aload_n 0, 1) := bdX2_levelHere_0 (0, .aload_n 0, 1) (List.mem_of_getElem? (i := 0) rfl)
theorem dX2_levelHere_1 : decode cX2_levelHere 1 = .ok (.getfield 18, 3) := bdX2_levelHere_0 (1, .getfield 18, 3) (List.mem_of_getElem? (i := 1) rfl)
theorem dX2_levelHere_4 : decode cX2_levelHere 4 = .ok (.iconst 3, 1) := bdX2_levelHere_0 (4, .iconst 3, 1) (List.mem_of_getElem? (i := 2) rfl)
theorem dX2_levelHere_5 : decode cX2_levelHere 5 = .ok (.if_icmp .eq 5, 3) := bdX2_levelHere_0 (5, .if_icmp .eq 5, 3) (List.mem_of_getElem? (i := 3) rfl)
theorem dX2_levelHere_8 : decode cX2_levelHere 8 = .ok (.iconst (-1), 1) := bdX2_levelHere_0 (8, .iconst (-1), 1) (List.mem_of_getElem? (i := 4) rfl)
theorem dX2_levelHere_9 : decode cX2_levelHere 9 = .ok (.ireturn, 1) := bdX2_levelHere_0 (9, .ireturn, 1) (List.mem_of_getElem? (i := 5) rfl)
theorem dX2_levelHere_10 : decode cX2_levelHere 10 = .ok (.aload_n 0, 1) := bdX2_levelHere_0 (10, .aload_n 0, 1) (List.mem_of_getElem? (i := 6) rfl)
theorem dX2_levelHere_11 : decode cX2_levelHere 11 = .ok (.getfield 12, 3) := bdX2_levelHere_0 (11, .getfield 12, 3) (List.mem_of_getElem? (i := 7) rfl)
theorem dX2_levelHere_14 : decode cX2_levelHere 14 = .ok (.aload_n 0, 1) := bdX2_levelHere_0 (14, .aload_n 0, 1) (List.mem_of_getElem? (i := 8) rfl)
theorem dX2_levelHere_15 : decode cX2_levelHere 15 = .ok (.getfield 22, 3) := bdX2_levelHere_0 (15, .getfield 22, 3) (List.mem_of_getElem? (i := 9) rfl)
theorem dX2_levelHere_18 : decode cX2_levelHere 18 = .ok (.invokevirtual 72, 3) := bdX2_levelHere_0 (18, .invokevirtual 72, 3) (List.mem_of_getElem? (i := 10) rfl)
theorem dX2_levelHere_104 : decode cX2_levelHere 104 = .ok (.iconst 0, 1) := bdX2_levelHere_0 (104, .iconst 0, 1) (List.mem_of_getElem? (i := 11) rfl)
theorem dX2_levelHere_105 : decode cX2_levelHere 105 = .ok (.ireturn, 1) := bdX2_levelHere_0 (105, .ireturn, 1) (List.mem_of_getElem? (i := 12) rfl)
theorem dX2_levelHere_106 : decode cX2_levelHere 106 = .ok (.iconst 1, 1) := bdX2_levelHere_0 (106, .iconst 1, 1) (List.mem_of_getElem? (i := 13) rfl)
theorem dX2_levelHere_107 : decode cX2_levelHere 107 = .ok (.ireturn, 1) := bdX2_levelHere_0 (107, .ireturn, 1) (List.mem_of_getElem? (i := 14) rfl)
theorem dX2_levelHere_108 : decode cX2_levelHere 108 = .ok (.iconst 2, 1) := bdX2_levelHere_0 (108, .iconst 2, 1) (List.mem_of_getElem? (i := 15) rfl)
theorem dX2_levelHere_109 : decode cX2_levelHere 109 = .ok (.ireturn, 1) := bdX2_levelHere_0 (109, .ireturn, 1) (List.mem_of_getElem? (i := 16) rfl)
theorem dX2_levelHere_110 : decode cX2_levelHere 110 = .ok (.iconst 3, 1) := bdX2_levelHere_0 (110, .iconst 3, 1) (List.mem_of_getElem? (i := 17) rfl)
theorem dX2_levelHere_111 : decode cX2_levelHere 111 = .ok (.ireturn, 1) := bdX2_levelHere_0 (111, .ireturn, 1) (List.mem_of_getElem? (i := 18) rfl)
theorem dX2_levelHere_112 : decode cX2_levelHere 112 = .ok (.iconst 4, 1) := bdX2_levelHere_0 (112, .iconst 4, 1) (List.mem_of_getElem? (i := 19) rfl)
theorem dX2_levelHere_113 : decode cX2_levelHere 113 = .ok (.ireturn, 1) := bdX2_levelHere_0 (113, .ireturn, 1) (List.mem_of_getElem? (i := 20) rfl)
theorem dX2_levelHere_114 : decode cX2_levelHere 114 = .ok (.iconst (-1), 1) := bdX2_levelHere_0 (114, .iconst (-1), 1) (List.mem_of_getElem? (i := 21) rfl)
theorem dX2_levelHere_115 : decode cX2_levelHere 115 = .ok (.ireturn, 1) := bdX2_levelHere_0 (115, .ireturn, 1) (List.mem_of_getElem? (i := 22) rfl)
theorem dX2_levelHere_21 : decode cX2_levelHere 21 = .ok (.lookupswitch 93 #[(38, 85), (42, 91), (43, 89), (45, 89), (47, 91), (60, 87), (61, 87), (62, 87), (124, 83)], 83) := by decide +kernel
def BX2_levelHere_112 (ln : Nat → Nat) (post : Int32 → HC → Prop) (S : HC)  : Prop := post (4 : Int32) S
def BX2_levelHere_110 (ln : Nat → Nat) (post : Int32 → HC → Prop) (S : HC)  : Prop := post (3 : Int32) S
def BX2_levelHere_108 (ln : Nat → Nat) (post : Int32 → HC → Prop) (S : HC)  : Prop := post (2 : Int32) S
def wpX2_levelHere (ln : Nat → Nat) (S : HC) (a0 : Nat) (post : Int32 → HC → Prop) : Prop := lt_ (hI S a0 1) fun z1 => if z1 = (3 : Int32) then (dn_ (hR S a0 0) fun b2 => lt_ (hI S a0 2) fun z3 => wpX6_at ln S b2 z3 fun z4 S => if z4 = (38 : Int32) then (post (1 : Int32) S) else if z4 = (42 : Int32) then (BX2_levelHere_112 ln post S) else if z4 = (43 : Int32) then (BX2_levelHere_110 ln post S) else if z4 = (45 : Int32) then (BX2_levelHere_110 ln post S) else if z4 = (47 : Int32) then (BX2_levelHere_112 ln post S) else if z4 = (60 : Int32) then (BX2_levelHere_108 ln post S) else if z4 = (61 : Int32) then (BX2_levelHere_108 ln post S) else if z4 = (62 : Int32) then (BX2_levelHere_108 ln post S) else if z4 = (124 : Int32) then (post (0 : Int32) S) else post (-1 : Int32) S) else (post (-1 : Int32) S)
abbrev rmX2_levelHere : Room := { frames := 1, cells := 0, slots := 0, locals := 21 }
set_option maxHeartbeats 4000000 in
set_option maxRecDepth 100000 in
theorem ctX2_levelHere {l : Launch} {g : GX} {N : Nat} {ln : Nat → Nat} {S : HC} {a0 : Nat} {post : Int32 → HC → Prop} (hr_a0 : a0 < N) (hk_a0 : kd a0 = 2) (h : wpX2_levelHere ln S a0 post) : Met l yX2_levelHere (Cond.code yX2_levelHere prog_4_method_10_code 1 (Option.some Jvm.ClassFile.FieldType.int) :: gtbl) rmX2_levelHere (va_Pc [.ref (gz g + a0)] (AtP g N ln S)) (QI g N ln post) 0 0 (gF g) := by
  refine m_of (by decide) (Nat.le_of_ble_eq_true rfl) ?_
  intro p e s m below meth c ls F hr I hl
  have hl : lv_has ls 1 [(0, .ref (gz g + a0))] := hl
  unfold wpX2_levelHere at h
  have hj_112 : ∀ (S : HC) (H : Heap) (locs : List Loc) (ls : Array Slot), BX2_levelHere_112 ln post S  → Inv g N ln S s H locs → lv_has ls 1 [] → W p l e rmX2_levelHere s m ([.ref (gz g + a0)] : List Value).toArray below meth c H locs 0 0 (MQ below (QI g N ln post) ([.ref (gz g + a0)] : List Value).toArray s 0 0 (gF g)) (F0 m 112 ls []) := by
    intro S H locs ls h I hl
    unfold BX2_levelHere_112 at h
    refine lv_iconst (v := 4) F.1 F.2.1 dX2_levelHere_112 (by decide) ?_
    exact r_ireturn F I ⟨hr.1, hr.2.1, trivial⟩ h dX2_levelHere_113
  have hj_110 : ∀ (S : HC) (H : Heap) (locs : List Loc) (ls : Array Slot), BX2_levelHere_110 ln post S  → Inv g N ln S s H locs → lv_has ls 1 [] → W p l e rmX2_levelHere s m ([.ref (gz g + a0)] : List Value).toArray below meth c H locs 0 0 (MQ below (QI g N ln post) ([.ref (gz g + a0)] : List Value).toArray s 0 0 (gF g)) (F0 m 110 ls []) := by
    intro S H locs ls h I hl
    unfold BX2_levelHere_110 at h
    refine lv_iconst (v := 3) F.1 F.2.1 dX2_levelHere_110 (by decide) ?_
    exact r_ireturn F I ⟨hr.1, hr.2.1, trivial⟩ h dX2_levelHere_111
  have hj_108 : ∀ (S : HC) (H : Heap) (locs : List Loc) (ls : Array Slot), BX2_levelHere_108 ln post S  → Inv g N ln S s H locs → lv_has ls 1 [] → W p l e rmX2_levelHere s m ([.ref (gz g + a0)] : List Value).toArray below meth c H locs 0 0 (MQ below (QI g N ln post) ([.ref (gz g + a0)] : List Value).toArray s 0 0 (gF g)) (F0 m 108 ls []) := by
    intro S H locs ls h I hl
    unfold BX2_levelHere_108 at h
    refine lv_iconst (v := 2) F.1 F.2.1 dX2_levelHere_108 (by decide) ?_
    exact r_ireturn F I ⟨hr.1, hr.2.1, trivial⟩ h dX2_levelHere_109
  refine lv_aload_n F.1 F.2.1 dX2_levelHere_0 rfl (lv_at hl 0 rfl) ?_
  refine r_getI F I hr_a0 hk_a0 fX2_18 rfl dX2_levelHere_1 h (fun z1 h => ?_)
  refine lv_iconst (v := 3) F.1 F.2.1 dX2_levelHere_4 (by decide) ?_
  refine r_icmp_eq (tgt := 10) F dX2_levelHere_5 (by decide) h (fun h => ?_) (fun h => ?_)
  · refine lv_aload_n F.1 F.2.1 dX2_levelHere_10 rfl (lv_at hl 0 rfl) ?_
    refine r_getN F I hr_a0 hk_a0 fX2_12 (f := 6) rfl (by decide) dX2_levelHere_11 h (fun b2 hr_b2 hk_b2 h => ?_)
    refine lv_aload_n F.1 F.2.1 dX2_levelHere_14 rfl (lv_at hl 0 rfl) ?_
    refine r_getI F I hr_a0 hk_a0 fX2_22 rfl dX2_levelHere_15 h (fun z3 h => ?_)
    refine g_I I (run_V (As := [.int z3]) (rest := []) F I hr_b2 hk_b2 (by decide) kX2_72 (ctX6_at hr_b2 hk_b2 h) ⟨rfl, rfl⟩ ⟨Nat.le_of_ble_eq_true rfl, Nat.le_of_ble_eq_true rfl⟩ rfl hl.1 rfl (Nat.le_of_ble_eq_true rfl) ⟨Nat.le_of_ble_eq_true rfl, Nat.le_of_ble_eq_true rfl⟩ dX2_levelHere_18) (fun z4 S H locs I h => ?_)
    by_cases c0 : z4 = (38 : Int32)
    · rw [if_pos c0] at h
      refine lv_lookup (off := 85) (tgt := 106) F.1 F.2.1 dX2_levelHere_21 (by decide) (by rw [c0]; rfl) (by decide) ?_
      refine lv_iconst (v := 1) F.1 F.2.1 dX2_levelHere_106 (by decide) ?_
      exact r_ireturn F I ⟨hr.1, hr.2.1, trivial⟩ h dX2_levelHere_107
    · rw [if_neg c0] at h
      by_cases c1 : z4 = (42 : Int32)
      · rw [if_pos c1] at h
        refine lv_lookup (off := 91) (tgt := 112) F.1 F.2.1 dX2_levelHere_21 (by decide) (by rw [c1]; rfl) (by decide) ?_
        exact hj_112 S _ _ _   h I (lv_sub hl [] rfl)
      · rw [if_neg c1] at h
        by_cases c2 : z4 = (43 : Int32)
        · rw [if_pos c2] at h
          refine lv_lookup (off := 89) (tgt := 110) F.1 F.2.1 dX2_levelHere_21 (by decide) (by rw [c2]; rfl) (by decide) ?_
          exact hj_110 S _ _ _   h I (lv_sub hl [] rfl)
        · rw [if_neg c2] at h
          by_cases c3 : z4 = (45 : Int32)
          · rw [if_pos c3] at h
            refine lv_lookup (off := 89) (tgt := 110) F.1 F.2.1 dX2_levelHere_21 (by decide) (by rw [c3]; rfl) (by decide) ?_
            exact hj_110 S _ _ _   h I (lv_sub hl [] rfl)
          · rw [if_neg c3] at h
            by_cases c4 : z4 = (47 : Int32)
            · rw [if_pos c4] at h
              refine lv_lookup (off := 91) (tgt := 112) F.1 F.2.1 dX2_levelHere_21 (by decide) (by rw [c4]; rfl) (by decide) ?_
              exact hj_112 S _ _ _   h I (lv_sub hl [] rfl)
            · rw [if_neg c4] at h
              by_cases c5 : z4 = (60 : Int32)
              · rw [if_pos c5] at h
                refine lv_lookup (off := 87) (tgt := 108) F.1 F.2.1 dX2_levelHere_21 (by decide) (by rw [c5]; rfl) (by decide) ?_
                exact hj_108 S _ _ _   h I (lv_sub hl [] rfl)
              · rw [if_neg c5] at h
                by_cases c6 : z4 = (61 : Int32)
                · rw [if_pos c6] at h
                  refine lv_lookup (off := 87) (tgt := 108) F.1 F.2.1 dX2_levelHere_21 (by decide) (by rw [c6]; rfl) (by decide) ?_
                  exact hj_108 S _ _ _   h I (lv_sub hl [] rfl)
                · rw [if_neg c6] at h
                  by_cases c7 : z4 = (62 : Int32)
                  · rw [if_pos c7] at h
                    refine lv_lookup (off := 87) (tgt := 108) F.1 F.2.1 dX2_levelHere_21 (by decide) (by rw [c7]; rfl) (by decide) ?_
                    exact hj_108 S _ _ _   h I (lv_sub hl [] rfl)
                  · rw [if_neg c7] at h
                    by_cases c8 : z4 = (124 : Int32)
                    · rw [if_pos c8] at h
                      refine lv_lookup (off := 83) (tgt := 104) F.1 F.2.1 dX2_levelHere_21 (by decide) (by rw [c8]; rfl) (by decide) ?_
                      refine lv_iconst (v := 0) F.1 F.2.1 dX2_levelHere_104 (by decide) ?_
                      exact r_ireturn F I ⟨hr.1, hr.2.1, trivial⟩ h dX2_levelHere_105
                    · rw [if_neg c8] at h
                      refine lv_lookup (off := 93) (tgt := 114) F.1 F.2.1 dX2_levelHere_21 (by decide) (by show Op.lookupswitch.offset [(38, 85), (42, 91), (43, 89), (45, 89), (47, 91), (60, 87), (61, 87), (62, 87), (124, 83)] (93) _ = _; rw [lv_osw c0 (by decide), lv_osw c1 (by decide), lv_osw c2 (by decide), lv_osw c3 (by decide), lv_osw c4 (by decide), lv_osw c5 (by decide), lv_osw c6 (by decide), lv_osw c7 (by decide), lv_osw c8 (by decide)]; rfl) (by decide) ?_
                      refine lv_iconst (v := -1) F.1 F.2.1 dX2_levelHere_114 (by decide) ?_
                      exact r_ireturn F I ⟨hr.1, hr.2.1, trivial⟩ h dX2_levelHere_115
  · refine lv_iconst (v := -1) F.1 F.2.1 dX2_levelHere_8 (by decide) ?_
    exact r_ireturn F I ⟨hr.1, hr.2.1, trivial⟩ h dX2_levelHere_9
theorem bdX2_readClosing_0 : ∀ q ∈ ([(0, .aload_n 0, 1), (1, .getfield 47, 3), (4, .ifCond .ge 19, 3), (7, .aload_n 0, 1), (8, .bipush 41, 2), (10, .invokevirtual 106, 3), (13, .ifCond .eq 10, 3), (16, .aload_n 0, 1), (17, .invokevirtual 50, 3), (20, .goto 7, 3), (23, .aload_n 0, 1), (24, .invokevirtual 57, 3), (27, .return_, 1)] : List (Nat × Jvm.ClassFile.Instr × Nat)), decode cX2_readClosing q.1 = .ok q.2 := chk_ok _ 0 _ rfl (by decide +kernel)
theorem dX2_readClosing_0 : decode cX2_readClosing 0 = .ok (.aload_n 0, 1) := bdX2_readClosing_0 (0, .aload_n 0, 1) (List.mem_of_getElem? (i := 0) rfl)
theorem dX2_readClosing_1 : decode cX2_readClosing 1 = .ok (.getfield 47, 3) := bdX2_readClosing_0 (1, .getfield 47, 3) (List.mem_of_getElem? (i := 1) rfl)
theorem dX2_readClosing_4 : decode cX2_readClosing 4 = .ok (.ifCond .ge 19, 3) := bdX2_readClosing_0 (4, .ifCond .ge 19, 3) (List.mem_of_getElem? (i := 2) rfl)
theorem dX2_readClosing_7 : decode cX2_readClosing 7 = .ok (.aload_n 0, 1) := bdX2_readClosing_0 (7, .aload_n 0, 1) (List.mem_of_getElem? (i := 3) rfl)
theorem dX2_readClosing_8 : decode cX2_readClosing 8 = .ok (.bipush 41, 2) := bdX2_readClosing_0 (8, .bipush 41, 2) (List.mem_of_getElem? (i := 4) rfl)
theorem dX2_readClosing_10 : decode cX2_readClosing 10 = .ok (.invokevirtual 106, 3) := bdX2_readClosing_0 (10, .invokevirtual 106, 3) (List.mem_of_getElem? (i := 5) rfl)
theorem dX2_readClosing_13 : decode cX2_readClosing 13 = .ok (.ifCond .eq 10, 3) := bdX2_readClosing_0 (13, .ifCond .eq 10, 3) (List.mem_of_getElem? (i := 6) rfl)
theorem dX2_readClosing_16 : decode cX2_readClosing 16 = .ok (.aload_n 0, 1) := bdX2_readClosing_0 (16, .aload_n 0, 1) (List.mem_of_getElem? (i := 7) rfl)
theorem dX2_readClosing_17 : decode cX2_readClosing 17 = .ok (.invokevirtual 50, 3) := bdX2_readClosing_0 (17, .invokevirtual 50, 3) (List.mem_of_getElem? (i := 8) rfl)
theorem dX2_readClosing_20 : decode cX2_readClosing 20 = .ok (.goto 7, 3) := bdX2_readClosing_0 (20, .goto 7, 3) (List.mem_of_getElem? (i := 9) rfl)
theorem dX2_readClosing_23 : decode cX2_readClosing 23 = .ok (.aload_n 0, 1) := bdX2_readClosing_0 (23, .aload_n 0, 1) (List.mem_of_getElem? (i := 10) rfl)
theorem dX2_readClosing_24 : decode cX2_readClosing 24 = .ok (.invokevirtual 57, 3) := bdX2_readClosing_0 (24, .invokevirtual 57, 3) (List.mem_of_getElem? (i := 11) rfl)
theorem dX2_readClosing_27 : decode cX2_readClosing 27 = .ok (.return_, 1) := bdX2_readClosing_0 (27, .return_, 1) (List.mem_of_getElem? (i := 12) rfl)
theorem kX2_57 : mthV RX2 57 2 yX2_fail prog_4_method_4_code 1 (Option.none : Option Jvm.ClassFile.FieldType) 0 := ⟨⟨⟨tw_710, tw_63, tw_713⟩, rfl, by decide +kernel⟩, tw_712, tw_11, rfl⟩
theorem kX2_106 : mthV RX2 106 2 yX2_isSign prog_4_method_9_code 2 (Option.some Jvm.ClassFile.FieldType.boolean) 1 := ⟨⟨⟨tw_722, tw_63, tw_725⟩, rfl, by decide +kernel⟩, tw_724, tw_14, rfl⟩
theorem kX2_50 : mthV RX2 50 2 yX2_advance prog_4_method_5_code 3 (Option.none : Option Jvm.ClassFile.FieldType) 0 := ⟨⟨⟨tw_640, tw_63, tw_643⟩, rfl, by decide +kernel⟩, tw_642, tw_8, rfl⟩
def BX2_readClosing_23 (ln : Nat → Nat) (post : HC → Prop) (S : HC) (x0 : Nat) : Prop := wpX2_fail ln S x0 fun S => post S
def wpX2_readClosing (ln : Nat → Nat) (S : HC) (a0 : Nat) (post : HC → Prop) : Prop := lt_ (hI S a0 10) fun z1 => if 0 ≤ z1 then (BX2_readClosing_23 ln post S a0) else (wpX2_isSign ln S a0 (41 : Int32) fun z2 S => if z2 = 0 then (BX2_readClosing_23 ln post S a0) else (wpX2_advance ln S a0 fun S => post S))
abbrev rmX2_readClosing : Room := { frames := 2, cells := 0, slots := 0, locals := 43 }
set_option maxHeartbeats 4000000 in
set_option maxRecDepth 100000 in
theorem ctX2_readClosing {l : Launch} {g : GX} {N : Nat} {ln : Nat → Nat} {S : HC} {a0 : Nat} {post : HC → Prop} (hr_a0 : a0 < N) (hk_a0 : kd a0 = 2) (h : wpX2_readClosing ln S a0 post) : Met l yX2_readClosing (Cond.code yX2_readClosing prog_4_method_13_code 1 (Option.none : Option Jvm.ClassFile.FieldType) :: gtbl) rmX2_readClosing (va_Pc [.ref (gz g + a0)] (AtP g N ln S)) (QV g N ln post) 0 0 (gF g) := by
  refine m_of (by decide) (Nat.le_of_ble_eq_true rfl) ?_
  intro p e s m below meth c ls F hr I hl
  have hl : lv_has ls 1 [(0, .ref (gz g + a0))] := hl
  unfold wpX2_readClosing at h
  have hj_23 : ∀ (S : HC) (H : Heap) (locs : List Loc) (ls : Array Slot) (x0 : Nat), x0 < N → kd x0 = 2 → BX2_readClosing_23 ln post S x0 → Inv g N ln S s H locs → lv_has ls 1 [(0, .ref (gz g + x0))] → W p l e rmX2_readClosing s m ([.ref (gz g + a0)] : List Value).toArray below meth c H locs 0 0 (MQ below (QV g N ln post) ([.ref (gz g + a0)] : List Value).toArray s 0 0 (gF g)) (F0 m 23 ls []) := by
    intro S H locs ls x0 hr_x0 hk_x0 h I hl
    unfold BX2_readClosing_23 at h
    refine lv_aload_n F.1 F.2.1 dX2_readClosing_23 rfl (lv_at hl 0 rfl) ?_
    refine g_V I (run_V (As := []) (rest := []) F I hr_x0 hk_x0 (by decide) kX2_57 (ctX2_fail hr_x0 hk_x0 h) ⟨rfl, rfl⟩ ⟨Nat.le_of_ble_eq_true rfl, Nat.le_of_ble_eq_true rfl⟩ rfl hl.1 rfl (Nat.le_of_ble_eq_true rfl) ⟨Nat.le_of_ble_eq_true rfl, Nat.le_of_ble_eq_true rfl⟩ dX2_readClosing_24) (fun S H locs I h => ?_)
    exact r_vreturn F I ⟨hr.1, hr.2.1, trivial⟩ h dX2_readClosing_27
  refine lv_aload_n F.1 F.2.1 dX2_readClosing_0 rfl (lv_at hl 0 rfl) ?_
  refine r_getI F I hr_a0 hk_a0 fX2_47 rfl dX2_readClosing_1 h (fun z1 h => ?_)
  refine r_if_ge (tgt := 23) F dX2_readClosing_4 (by decide) h (fun h => ?_) (fun h => ?_)
  · exact hj_23 S _ _ _ a0 hr_a0 hk_a0 h I (lv_sub hl [0] rfl)
  · refine lv_aload_n F.1 F.2.1 dX2_readClosing_7 rfl (lv_at hl 0 rfl) ?_
    refine lv_bipush (v := 41) F.1 F.2.1 dX2_readClosing_8 (by decide) ?_
    refine g_I I (run_V (As := [.int (41 : Int32)]) (rest := []) F I hr_a0 hk_a0 (by decide) kX2_106 (ctX2_isSign hr_a0 hk_a0 h) ⟨rfl, rfl⟩ ⟨Nat.le_of_ble_eq_true rfl, Nat.le_of_ble_eq_true rfl⟩ rfl hl.1 rfl (Nat.le_of_ble_eq_true rfl) ⟨Nat.le_of_ble_eq_true rfl, Nat.le_of_ble_eq_true rfl⟩ dX2_readClosing_10) (fun z2 S H locs I h => ?_)
    refine r_if_eq (tgt := 23) F dX2_readClosing_13 (by decide) h (fun h => ?_) (fun h => ?_)
    · exact hj_23 S _ _ _ a0 hr_a0 hk_a0 h I (lv_sub hl [0] rfl)
    · refine lv_aload_n F.1 F.2.1 dX2_readClosing_16 rfl (lv_at hl 0 rfl) ?_
      refine g_V I (run_V (As := []) (rest := []) F I hr_a0 hk_a0 (by decide) kX2_50 (ctX2_advance hr_a0 hk_a0 h) ⟨rfl, rfl⟩ ⟨Nat.le_of_ble_eq_true rfl, Nat.le_of_ble_eq_true rfl⟩ rfl hl.1 rfl (Nat.le_of_ble_eq_true rfl) ⟨Nat.le_of_ble_eq_true rfl, Nat.le_of_ble_eq_true rfl⟩ dX2_readClosing_17) (fun S H locs I h => ?_)
      refine lv_goto (tgt := 27) F.1 F.2.1 dX2_readClosing_20 (by decide) ?_
      exact r_vreturn F I ⟨hr.1, hr.2.1, trivial⟩ h dX2_readClosing_27
theorem bdX2_numberHere_0 : ∀ q ∈ ([(0, .aload_n 0, 1), (1, .getfield 25, 3), (4, .aload_n 0, 1), (5, .getfield 22, 3), (8, .isub, 1), (9, .iconst 4, 1), (10, .if_icmp .le 5, 3), (13, .iconst (-1), 1), (14, .ireturn, 1), (15, .iconst 0, 1), (16, .istore_n 1, 1), (17, .aload_n 0, 1), (18, .getfield 22, 3), (21, .istore_n 2, 1), (22, .iload_n 2, 1), (23, .aload_n 0, 1), (24, .getfield 25, 3), (27, .if_icmp .ge 26, 3), (30, .bipush 10, 2), (32, .iload_n 1, 1), (33, .imul, 1), (34, .aload_n 0, 1), (35, .getfield 12, 3), (38, .iload_n 2, 1), (39, .invokevirtual 72, 3), (42, .iadd, 1), (43, .bipush 48, 2), (45, .isub, 1), (46, .istore_n 1, 1), (47, .iinc 2 1, 3), (50, .goto (-28), 3), (53, .iload_n 1, 1), (54, .ireturn, 1)] : List (Nat × Jvm.ClassFile.Instr × Nat)), decode cX2_numberHere q.1 = .ok q.2 := chk_ok _ 0 _ rfl (by decide +kernel)
theorem dX2_numberHere_0 : decode cX2_numberHere 0 = .ok (.aload_n 0, 1) := bdX2_numberHere_0 (0, .aload_n 0, 1) (List.mem_of_getElem? (i := 0) rfl)
theorem dX2_numberHere_1 : decode cX2_numberHere 1 = .ok (.getfield 25, 3) := bdX2_numberHere_0 (1, .getfield 25, 3) (List.mem_of_getElem? (i := 1) rfl)
theorem dX2_numberHere_4 : decode cX2_numberHere 4 = .ok (.aload_n 0, 1) := bdX2_numberHere_0 (4, .aload_n 0, 1) (List.mem_of_getElem? (i := 2) rfl)
theorem dX2_numberHere_5 : decode cX2_numberHere 5 = .ok (.getfield 22, 3) := bdX2_numberHere_0 (5, .getfield 22, 3) (List.mem_of_getElem? (i := 3) rfl)
theorem dX2_numberHere_8 : decode cX2_numberHere 8 = .ok (.isub, 1) := bdX2_numberHere_0 (8, .isub, 1) (List.mem_of_getElem? (i := 4) rfl)
theorem dX2_numberHere_9 : decode cX2_numberHere 9 = .ok (.iconst 4, 1) := bdX2_numberHere_0 (9, .iconst 4, 1) (List.mem_of_getElem? (i := 5) rfl)
theorem dX2_numberHere_10 : decode cX2_numberHere 10 = .ok (.if_icmp .le 5, 3) := bdX2_numberHere_0 (10, .if_icmp .le 5, 3) (List.mem_of_getElem? (i := 6) rfl)
theorem dX2_numberHere_13 : decode cX2_numberHere 13 = .ok (.iconst (-1), 1) := bdX2_numberHere_0 (13, .iconst (-1), 1) (List.mem_of_getElem? (i := 7) rfl)
theorem dX2_numberHere_14 : decode cX2_numberHere 14 = .ok (.ireturn, 1) := bdX2_numberHere_0 (14, .ireturn, 1) (List.mem_of_getElem? (i := 8) rfl)
theorem dX2_numberHere_15 : decode cX2_numberHere 15 = .ok (.iconst 0, 1) := bdX2_numberHere_0 (15, .iconst 0, 1) (List.mem_of_getElem? (i := 9) rfl)
theorem dX2_numberHere_16 : decode cX2_numberHere 16 = .ok (.istore_n 1, 1) := bdX2_numberHere_0 (16, .istore_n 1, 1) (List.mem_of_getElem? (i := 10) rfl)
theorem dX2_numberHere_17 : decode cX2_numberHere 17 = .ok (.aload_n 0, 1) := bdX2_numberHere_0 (17, .aload_n 0, 1) (List.mem_of_getElem? (i := 11) rfl)
theorem dX2_numberHere_18 : decode cX2_numberHere 18 = .ok (.getfield 22, 3) := bdX2_numberHere_0 (18, .getfield 22, 3) (List.mem_of_getElem? (i := 12) rfl)
theorem dX2_numberHere_21 : decode cX2_numberHere 21 = .ok (.istore_n 2, 1) := bdX2_numberHere_0 (21, .istore_n 2, 1) (List.mem_of_getElem? (i := 13) rfl)
theorem dX2_numberHere_22 : decode cX2_numberHere 22 = .ok (.iload_n 2, 1) := bdX2_numberHere_0 (22, .iload_n 2, 1) (List.mem_of_getElem? (i := 14) rfl)
theorem dX2_numberHere_23 : decode cX2_numberHere 23 = .ok (.aload_n 0, 1) := bdX2_numberHere_0 (23, .aload_n 0, 1) (List.mem_of_getElem? (i := 15) rfl)
theorem dX2_numberHere_24 : decode cX2_numberHere 24 = .ok (.getfield 25, 3) := bdX2_numberHere_0 (24, .getfield 25, 3) (List.mem_of_getElem? (i := 16) rfl)
theorem dX2_numberHere_27 : decode cX2_numberHere 27 = .ok (.if_icmp .ge 26, 3) := bdX2_numberHere_0 (27, .if_icmp .ge 26, 3) (List.mem_of_getElem? (i := 17) rfl)
theorem dX2_numberHere_30 : decode cX2_numberHere 30 = .ok (.bipush 10, 2) := bdX2_numberHere_0 (30, .bipush 10, 2) (List.mem_of_getElem? (i := 18) rfl)
theorem dX2_numberHere_32 : decode cX2_numberHere 32 = .ok (.iload_n 1, 1) := bdX2_numberHere_0 (32, .iload_n 1, 1) (List.mem_of_getElem? (i := 19) rfl)
theorem dX2_numberHere_33 : decode cX2_numberHere 33 = .ok (.imul, 1) := bdX2_numberHere_0 (33, .imul, 1) (List.mem_of_getElem? (i := 20) rfl)
theorem dX2_numberHere_34 : decode cX2_numberHere 34 = .ok (.aload_n 0, 1) := bdX2_numberHere_0 (34, .aload_n 0, 1) (List.mem_of_getElem? (i := 21) rfl)
theorem dX2_numberHere_35 : decode cX2_numberHere 35 = .ok (.getfield 12, 3) := bdX2_numberHere_0 (35, .getfield 12, 3) (List.mem_of_getElem? (i := 22) rfl)
theorem dX2_numberHere_38 : decode cX2_numberHere 38 = .ok (.iload_n 2, 1) := bdX2_numberHere_0 (38, .iload_n 2, 1) (List.mem_of_getElem? (i := 23) rfl)
theorem dX2_numberHere_39 : decode cX2_numberHere 39 = .ok (.invokevirtual 72, 3) := bdX2_numberHere_0 (39, .invokevirtual 72, 3) (List.mem_of_getElem? (i := 24) rfl)
theorem dX2_numberHere_42 : decode cX2_numberHere 42 = .ok (.iadd, 1) := bdX2_numberHere_0 (42, .iadd, 1) (List.mem_of_getElem? (i := 25) rfl)
theorem dX2_numberHere_43 : decode cX2_numberHere 43 = .ok (.bipush 48, 2) := bdX2_numberHere_0 (43, .bipush 48, 2) (List.mem_of_getElem? (i := 26) rfl)
theorem dX2_numberHere_45 : decode cX2_numberHere 45 = .ok (.isub, 1) := bdX2_numberHere_0 (45, .isub, 1) (List.mem_of_getElem? (i := 27) rfl)
theorem dX2_numberHere_46 : decode cX2_numberHere 46 = .ok (.istore_n 1, 1) := bdX2_numberHere_0 (46, .istore_n 1, 1) (List.mem_of_getElem? (i := 28) rfl)
theorem dX2_numberHere_47 : decode cX2_numberHere 47 = .ok (.iinc 2 1, 3) := bdX2_numberHere_0 (47, .iinc 2 1, 3) (List.mem_of_getElem? (i := 29) rfl)
theorem dX2_numberHere_50 : decode cX2_numberHere 50 = .ok (.goto (-28), 3) := bdX2_numberHere_0 (50, .goto (-28), 3) (List.mem_of_getElem? (i := 30) rfl)
theorem dX2_numberHere_53 : decode cX2_numberHere 53 = .ok (.iload_n 1, 1) := bdX2_numberHere_0 (53, .iload_n 1, 1) (List.mem_of_getElem? (i := 31) rfl)
theorem dX2_numberHere_54 : decode cX2_numberHere 54 = .ok (.ireturn, 1) := bdX2_numberHere_0 (54, .ireturn, 1) (List.mem_of_getElem? (i := 32) rfl)
def LX2_numberHere_22 (ln : Nat → Nat) (post : Int32 → HC → Prop) : Nat → HC → Nat → Int32 → Int32 → Prop
  | 0 => fun _ _ _ _ => False
  | n22 + 1 => fun S x0 x1 x2 => lt_ (hI S x0 3) fun z1 => if z1 ≤ x2 then (post x1 S) else (lt_ ((10 : Int32) * x1) fun z2 => dn_ (hR S x0 0) fun b3 => wpX6_at ln S b3 x2 fun z4 S => lt_ (z2 + z4) fun z5 => lt_ (z5 - (48 : Int32)) fun z6 => lt_ (x2 + (1 : Int32)) fun z7 => (LX2_numberHere_22 ln post n22) S x0 z6 z7)
def wpX2_numberHere (ln : Nat → Nat) (S : HC) (a0 : Nat) (post : Int32 → HC → Prop) : Prop := lt_ (hI S a0 3) fun z8 => lt_ (hI S a0 2) fun z9 => lt_ (z8 - z9) fun z10 => if z10 ≤ (4 : Int32) then (lt_ (hI S a0 2) fun z11 => ∃ n22, LX2_numberHere_22 ln post n22 S a0 (0 : Int32) z11) else (post (-1 : Int32) S)
abbrev rmX2_numberHere : Room := { frames := 1, cells := 0, slots := 0, locals := 21 }
set_option maxHeartbeats 4000000 in
set_option maxRecDepth 100000 in
theorem ctX2_numberHere {l : Launch} {g : GX} {N : Nat} {ln : Nat → Nat} {S : HC} {a0 : Nat} {post : Int32 → HC → Prop} (hr_a0 : a0 < N) (hk_a0 : kd a0 = 2) (h : wpX2_numberHere ln S a0 post) : Met l yX2_numberHere (Cond.code yX2_numberHere prog_4_method_15_code 3 (Option.some Jvm.ClassFile.FieldType.int) :: gtbl) rmX2_numberHere (va_Pc [.ref (gz g + a0)] (AtP g N ln S)) (QI g N ln post) 0 0 (gF g) := by
  refine m_of (by decide) (Nat.le_of_ble_eq_true rfl) ?_
  intro p e s m below meth c ls F hr I hl
  have hl : lv_has ls 3 [(0, .ref (gz g + a0))] := hl
  unfold wpX2_numberHere at h
  have hl_22 : ∀ n22 : Nat, ∀ (S : HC) (H : Heap) (locs : List Loc) (ls : Array Slot) (x0 : Nat) (x1 : Int32) (x2 : Int32), x0 < N → kd x0 = 2 → LX2_numberHere_22 ln post n22 S x0 x1 x2 → Inv g N ln S s H locs → lv_has ls 3 [(0, .ref (gz g + x0)), (1, .int x1), (2, .int x2)] → W p l e rmX2_numberHere s m ([.ref (gz g + a0)] : List Value).toArray below meth c H locs 0 0 (MQ below (QI g N ln post) ([.ref (gz g + a0)] : List Value).toArray s 0 0 (gF g)) (F0 m 22 ls []) := by
    intro n22
    induction n22 with
    | zero =>
      intro S H locs ls x0 x1 x2 hr_x0 hk_x0 h I hl
      exact h.elim
    | succ n22 ih =>
      have hk22 := ih
      intro S H locs ls x0 x1 x2 hr_x0 hk_x0 h I hl
      rw [LX2_numberHere_22] at h
      refine lv_iload_n F.1 F.2.1 dX2_numberHere_22 rfl (lv_at hl 2 rfl) ?_
      refine lv_aload_n F.1 F.2.1 dX2_numberHere_23 rfl (lv_at hl 0 rfl) ?_
      refine r_getI F I hr_x0 hk_x0 fX2_25 rfl dX2_numberHere_24 h (fun z1 h => ?_)
      refine r_icmp_ge (tgt := 53) F dX2_numberHere_27 (by decide) h (fun h => ?_) (fun h => ?_)
      · refine lv_iload_n F.1 F.2.1 dX2_numberHere_53 rfl (lv_at hl 1 rfl) ?_
        exact r_ireturn F I ⟨hr.1, hr.2.1, trivial⟩ h dX2_numberHere_54
      · refine lv_bipush (v := 10) F.1 F.2.1 dX2_numberHere_30 (by decide) ?_
        refine lv_iload_n F.1 F.2.1 dX2_numberHere_32 rfl (lv_at hl 1 rfl) ?_
        refine r_imul F dX2_numberHere_33 h (fun z2 h => ?_)
        refine lv_aload_n F.1 F.2.1 dX2_numberHere_34 rfl (lv_at hl 0 rfl) ?_
        refine r_getN F I hr_x0 hk_x0 fX2_12 (f := 6) rfl (by decide) dX2_numberHere_35 h (fun b3 hr_b3 hk_b3 h => ?_)
        refine lv_iload_n F.1 F.2.1 dX2_numberHere_38 rfl (lv_at hl 2 rfl) ?_
        refine g_I I (run_V (As := [.int x2]) (rest := [.int z2]) F I hr_b3 hk_b3 (by decide) kX2_72 (ctX6_at hr_b3 hk_b3 h) ⟨rfl, rfl⟩ ⟨Nat.le_of_ble_eq_true rfl, Nat.le_of_ble_eq_true rfl⟩ rfl hl.1 rfl (Nat.le_of_ble_eq_true rfl) ⟨Nat.le_of_ble_eq_true rfl, Nat.le_of_ble_eq_true rfl⟩ dX2_numberHere_39) (fun z4 S H locs I h => ?_)
        refine r_iadd F dX2_numberHere_42 h (fun z5 h => ?_)
        refine lv_bipush (v := 48) F.1 F.2.1 dX2_numberHere_43 (by decide) ?_
        refine r_isub F dX2_numberHere_45 h (fun z6 h => ?_)
        refine lv_istore_n (lv' := [(1, .int z6), (0, .ref (gz g + x0)), (2, .int x2)]) F.1 F.2.1 dX2_numberHere_46 rfl hl (by decide) rfl (fun ls hl => ?_)
        obtain ⟨z7, e_z7, h⟩ := lt_x h
        refine lv_iinc (v := z7) (lv' := [(2, .int z7), (1, .int z6), (0, .ref (gz g + x0))]) F.1 F.2.1 dX2_numberHere_47 hl (k := 2) rfl (by rw [e_z7]; rfl) (by decide) rfl (fun ls hl => ?_)
        refine lv_goto (tgt := 22) F.1 F.2.1 dX2_numberHere_50 (by decide) ?_
        exact hk22 S _ _ _ x0 z6 z7 hr_x0 hk_x0 h I (lv_sub hl [2, 1, 0] rfl)
  refine lv_aload_n F.1 F.2.1 dX2_numberHere_0 rfl (lv_at hl 0 rfl) ?_
  refine r_getI F I hr_a0 hk_a0 fX2_25 rfl dX2_numberHere_1 h (fun z8 h => ?_)
  refine lv_aload_n F.1 F.2.1 dX2_numberHere_4 rfl (lv_at hl 0 rfl) ?_
  refine r_getI F I hr_a0 hk_a0 fX2_22 rfl dX2_numberHere_5 h (fun z9 h => ?_)
  refine r_isub F dX2_numberHere_8 h (fun z10 h => ?_)
  refine lv_iconst (v := 4) F.1 F.2.1 dX2_numberHere_9 (by decide) ?_
  refine r_icmp_le (tgt := 15) F dX2_numberHere_10 (by decide) h (fun h => ?_) (fun h => ?_)
  · refine lv_iconst (v := 0) F.1 F.2.1 dX2_numberHere_15 (by decide) ?_
    refine lv_istore_n (lv' := [(1, .int (0 : Int32)), (0, .ref (gz g + a0))]) F.1 F.2.1 dX2_numberHere_16 rfl hl (by decide) rfl (fun ls hl => ?_)
    refine lv_aload_n F.1 F.2.1 dX2_numberHere_17 rfl (lv_at hl 1 rfl) ?_
    refine r_getI F I hr_a0 hk_a0 fX2_22 rfl dX2_numberHere_18 h (fun z11 h => ?_)
    refine lv_istore_n (lv' := [(2, .int z11), (1, .int (0 : Int32)), (0, .ref (gz g + a0))]) F.1 F.2.1 dX2_numberHere_21 rfl hl (by decide) rfl (fun ls hl => ?_)
    obtain ⟨n22, h⟩ := h
    exact hl_22 n22 S _ _ _ a0 (0 : Int32) z11 hr_a0 hk_a0 h I (lv_sub hl [2, 1, 0] rfl)
  · refine lv_iconst (v := -1) F.1 F.2.1 dX2_numberHere_13 (by decide) ?_
    exact r_ireturn F I ⟨hr.1, hr.2.1, trivial⟩ h dX2_numberHere_14
theorem bdX2_nameHere_0 : ∀ q ∈ ([(0, .aload_n 0, 1), (1, .getfield 18, 3), (4, .iconst 1, 1), (5, .if_icmp .ne 16, 3), (8, .aload_n 0, 1), (9, .getfield 25, 3), (12, .aload_n 0, 1), (13, .getfield 22, 3), (16, .isub, 1), (17, .iconst 1, 1), (18, .if_icmp .eq 5, 3), (21, .iconst (-1), 1), (22, .ireturn, 1), (23, .aload_n 0, 1), (24, .getfield 28, 3), (27, .ifCond .ne 8, 3), (30, .ldc 122, 2), (32, .goto 18, 3), (35, .aload_n 0, 1), (36, .getfield 28, 3), (39, .iconst 1, 1), (40, .if_icmp .ne 8, 3), (43, .ldc 124, 2), (45, .goto 5, 3), (48, .ldc 126, 2), (50, .astore_n 1, 1), (51, .aload_n 1, 1), (52, .aload_n 0, 1), (53, .getfield 12, 3), (56, .aload_n 0, 1), (57, .getfield 22, 3), (60, .invokevirtual 72, 3), (64, .invokevirtual 128, 3), (67, .istore_n 2, 1), (68, .iload_n 2, 1), (69, .ifCond .ge 7, 3), (72, .iconst (-1), 1), (73, .goto 8, 3), (76, .sipush 10000, 3), (79, .iload_n 2, 1)] : List (Nat × Jvm.ClassFile.Instr × Nat)), decode cX2_nameHere q.1 = .ok q.2 := chk_ok _ 0 _ rfl (by decide +kernel)
theorem dX2_nameHere_0 : decode cX2_nameHere 0 = .ok (.aload_n 0, 1) := bdX2_nameHere_0 (0, .aload_n 0, 1) (List.mem_of_getElem? (i := 0) rfl)
theorem dX2_nameHere_1 : decode cX2_nameHere 1 = .ok (.getfield 18, 3) := bdX2_nameHere_0 (1, .getfield 18, 3) (List.mem_of_getElem? (i := 1) rfl)
theorem dX2_nameHere_4 : decode cX2_nameHere 4 = .ok (.iconst 1, 1) := bdX2_nameHere_0 (4, .iconst 1, 1) (List.mem_of_getElem? (i := 2) rfl)
theorem dX2_nameHere_5 : decode cX2_nameHere 5 = .ok (.if_icmp .ne 16, 3) := bdX2_nameHere_0 (5, .if_icmp .ne 16, 3) (List.mem_of_getElem? (i := 3) rfl)
theorem dX2_nameHere_8 : decode cX2_nameHere 8 = .ok (.aload_n 0, 1) := bdX2_nameHere_0 (8, .aload_n 0, 1) (List.mem_of_getElem? (i := 4) rfl)
theorem dX2_nameHere_9 : decode cX2_nameHere 9 = .ok (.getfield 25, 3) := bdX2_nameHere_0 (9, .getfield 25, 3) (List.mem_of_getElem? (i := 5) rfl)
theorem dX2_nameHere_12 : decode cX2_nameHere 12 = .ok (.aload_n 0, 1) := bdX2_nameHere_0 (12, .aload_n 0, 1) (List.mem_of_getElem? (i := 6) rfl)
theorem dX2_nameHere_13 : decode cX2_nameHere 13 = .ok (.getfield 22, 3) := bdX2_nameHere_0 (13, .getfield 22, 3) (List.mem_of_getElem? (i := 7) rfl)
theorem dX2_nameHere_16 : decode cX2_nameHere 16 = .ok (.isub, 1) := bdX2_nameHere_0 (16, .isub, 1) (List.mem_of_getElem? (i := 8) rfl)
theorem dX2_nameHere_17 : decode cX2_nameHere 17 = .ok (.iconst 1, 1) := bdX2_nameHere_0 (17, .iconst 1, 1) (List.mem_of_getElem? (i := 9) rfl)
theorem dX2_nameHere_18 : decode cX2_nameHere 18 = .ok (.if_icmp .eq 5, 3) := bdX2_nameHere_0 (18, .if_icmp .eq 5, 3) (List.mem_of_getElem? (i := 10) rfl)
theorem dX2_nameHere_21 : decode cX2_nameHere 21 = .ok (.iconst (-1), 1) := bdX2_nameHere_0 (21, .iconst (-1), 1) (List.mem_of_getElem? (i := 11) rfl)
theorem dX2_nameHere_22 : decode cX2_nameHere 22 = .ok (.ireturn, 1) := bdX2_nameHere_0 (22, .ireturn, 1) (List.mem_of_getElem? (i := 12) rfl)
theorem dX2_nameHere_23 : decode cX2_nameHere 23 = .ok (.aload_n 0, 1) := bdX2_nameHere_0 (23, .aload_n 0, 1) (List.mem_of_getElem? (i := 13) rfl)
theorem dX2_nameHere_24 : decode cX2_nameHere 24 = .ok (.getfield 28, 3) := bdX2_nameHere_0 (24, .getfield 28, 3) (List.mem_of_getElem? (i := 14) rfl)
theorem dX2_nameHere_27 : decode cX2_nameHere 27 = .ok (.ifCond .ne 8, 3) := bdX2_nameHere_0 (27, .ifCond .ne 8, 3) (List.mem_of_getElem? (i := 15) rfl)
theorem dX2_nameHere_30 : decode cX2_nameHere 30 = .ok (.ldc 122, 2) := bdX2_nameHere_0 (30, .ldc 122, 2) (List.mem_of_getElem? (i := 16) rfl)
theorem dX2_nameHere_32 : decode cX2_nameHere 32 = .ok (.goto 18, 3) := bdX2_nameHere_0 (32, .goto 18, 3) (List.mem_of_getElem? (i := 17) rfl)
theorem dX2_nameHere_35 : decode cX2_nameHere 35 = .ok (.aload_n 0, 1) := bdX2_nameHere_0 (35, .aload_n 0, 1) (List.mem_of_getElem? (i := 18) rfl)
theorem dX2_nameHere_36 : decode cX2_nameHere 36 = .ok (.getfield 28, 3) := bdX2_nameHere_0 (36, .getfield 28, 3) (List.mem_of_getElem? (i := 19) rfl)
theorem dX2_nameHere_39 : decode cX2_nameHere 39 = .ok (.iconst 1, 1) := bdX2_nameHere_0 (39, .iconst 1, 1) (List.mem_of_getElem? (i := 20) rfl)
theorem dX2_nameHere_40 : decode cX2_nameHere 40 = .ok (.if_icmp .ne 8, 3) := bdX2_nameHere_0 (40, .if_icmp .ne 8, 3) (List.mem_of_getElem? (i := 21) rfl)
theorem dX2_nameHere_43 : decode cX2_nameHere 43 = .ok (.ldc 124, 2) := bdX2_nameHere_0 (43, .ldc 124, 2) (List.mem_of_getElem? (i := 22) rfl)
theorem dX2_nameHere_45 : decode cX2_nameHere 45 = .ok (.goto 5, 3) := bdX2_nameHere_0 (45, .goto 5, 3) (List.mem_of_getElem? (i := 23) rfl)
theorem dX2_nameHere_48 : decode cX2_nameHere 48 = .ok (.ldc 126, 2) := bdX2_nameHere_0 (48, .ldc 126, 2) (List.mem_of_getElem? (i := 24) rfl)
theorem dX2_nameHere_50 : decode cX2_nameHere 50 = .ok (.astore_n 1, 1) := bdX2_nameHere_0 (50, .astore_n 1, 1) (List.mem_of_getElem? (i := 25) rfl)
theorem dX2_nameHere_51 : decode cX2_nameHere 51 = .ok (.aload_n 1, 1) := bdX2_nameHere_0 (51, .aload_n 1, 1) (List.mem_of_getElem? (i := 26) rfl)
theorem dX2_nameHere_52 : decode cX2_nameHere 52 = .ok (.aload_n 0, 1) := bdX2_nameHere_0 (52, .aload_n 0, 1) (List.mem_of_getElem? (i := 27) rfl)
theorem dX2_nameHere_53 : decode cX2_nameHere 53 = .ok (.getfield 12, 3) := bdX2_nameHere_0 (53, .getfield 12, 3) (List.mem_of_getElem? (i := 28) rfl)
theorem dX2_nameHere_56 : decode cX2_nameHere 56 = .ok (.aload_n 0, 1) := bdX2_nameHere_0 (56, .aload_n 0, 1) (List.mem_of_getElem? (i := 29) rfl)
theorem dX2_nameHere_57 : decode cX2_nameHere 57 = .ok (.getfield 22, 3) := bdX2_nameHere_0 (57, .getfield 22, 3) (List.mem_of_getElem? (i := 30) rfl)
theorem dX2_nameHere_60 : decode cX2_nameHere 60 = .ok (.invokevirtual 72, 3) := bdX2_nameHere_0 (60, .invokevirtual 72, 3) (List.mem_of_getElem? (i := 31) rfl)
theorem dX2_nameHere_64 : decode cX2_nameHere 64 = .ok (.invokevirtual 128, 3) := bdX2_nameHere_0 (64, .invokevirtual 128, 3) (List.mem_of_getElem? (i := 32) rfl)
theorem dX2_nameHere_67 : decode cX2_nameHere 67 = .ok (.istore_n 2, 1) := bdX2_nameHere_0 (67, .istore_n 2, 1) (List.mem_of_getElem? (i := 33) rfl)
theorem dX2_nameHere_68 : decode cX2_nameHere 68 = .ok (.iload_n 2, 1) := bdX2_nameHere_0 (68, .iload_n 2, 1) (List.mem_of_getElem? (i := 34) rfl)
theorem dX2_nameHere_69 : decode cX2_nameHere 69 = .ok (.ifCond .ge 7, 3) := bdX2_nameHere_0 (69, .ifCond .ge 7, 3) (List.mem_of_getElem? (i := 35) rfl)
theorem dX2_nameHere_72 : decode cX2_nameHere 72 = .ok (.iconst (-1), 1) := bdX2_nameHere_0 (72, .iconst (-1), 1) (List.mem_of_getElem? (i := 36) rfl)
theorem dX2_nameHere_73 : decode cX2_nameHere 73 = .ok (.goto 8, 3) := bdX2_nameHere_0 (73, .goto 8, 3) (List.mem_of_getElem? (i := 37) rfl)
theorem dX2_nameHere_76 : decode cX2_nameHere 76 = .ok (.sipush 10000, 3) := bdX2_nameHere_0 (76, .sipush 10000, 3) (List.mem_of_getElem? (i := 38) rfl)
theorem dX2_nameHere_79 : decode cX2_nameHere 79 = .ok (.iload_n 2, 1) := bdX2_nameHere_0 (79, .iload_n 2, 1) (List.mem_of_getElem? (i := 39) rfl)
theorem bdX2_nameHere_80 : ∀ q ∈ ([(80, .iadd, 1), (81, .ireturn, 1)] : List (Nat × Jvm.ClassFile.Instr × Nat)), decode cX2_nameHere q.1 = .ok q.2 := chk_ok _ 80 _ rfl (by decide +kernel)
theorem dX2_nameHere_80 : decode cX2_nameHere 80 = .ok (.iadd, 1) := bdX2_nameHere_80 (80, .iadd, 1) (List.mem_of_getElem? (i := 0) rfl)
theorem dX2_nameHere_81 : decode cX2_nameHere 81 = .ok (.ireturn, 1) := bdX2_nameHere_80 (81, .ireturn, 1) (List.mem_of_getElem? (i := 1) rfl)
theorem dX2_nameHere_63 : decode cX2_nameHere 63 = .ok (.i2c, 1) := by decide +kernel
theorem kX2_128 : mthT RX2 128 yJ0_indexOf_0f7a4 prog_14_method_79_code 2 (Option.some Jvm.ClassFile.FieldType.int) 1 := ⟨⟨⟨tw_749, tw_71, tw_752⟩, rfl, by decide +kernel⟩, tw_750, tw_751⟩
def BX2_nameHere_50 (ln : Nat → Nat) (post : Int32 → HC → Prop) (S : HC) (x0 : Nat) (t0 : Nat) : Prop := dn_ (hR S x0 0) fun b1 => lt_ (hI S x0 2) fun z2 => wpX6_at ln S b1 z2 fun z3 S => lt_ ((z3.toUInt32 % 65536).toInt32) fun z4 => wpJ0_indexOf_0f7a4 ln S t0 z4 fun z5 S => if 0 ≤ z5 then (lt_ ((10000 : Int32) + z5) fun z6 => post z6 S) else (post (-1 : Int32) S)
def BX2_nameHere_21 (ln : Nat → Nat) (post : Int32 → HC → Prop) (S : HC)  : Prop := post (-1 : Int32) S
def wpX2_nameHere (ln : Nat → Nat) (S : HC) (a0 : Nat) (post : Int32 → HC → Prop) : Prop := lt_ (hI S a0 1) fun z7 => if z7 = (1 : Int32) then (lt_ (hI S a0 3) fun z8 => lt_ (hI S a0 2) fun z9 => lt_ (z8 - z9) fun z10 => if z10 = (1 : Int32) then (lt_ (hI S a0 4) fun z11 => if z11 = 0 then (BX2_nameHere_50 ln post S a0 3) else (lt_ (hI S a0 4) fun z12 => if z12 = (1 : Int32) then (BX2_nameHere_50 ln post S a0 4) else (BX2_nameHere_50 ln post S a0 5))) else (BX2_nameHere_21 ln post S)) else (BX2_nameHere_21 ln post S)
abbrev rmX2_nameHere : Room := { frames := 4, cells := 0, slots := 0, locals := 91 }
set_option maxHeartbeats 4000000 in
set_option maxRecDepth 100000 in
theorem ctX2_nameHere {l : Launch} {g : GX} {N : Nat} {ln : Nat → Nat} {S : HC} {a0 : Nat} {post : Int32 → HC → Prop} (hr_a0 : a0 < N) (hk_a0 : kd a0 = 2) (h : wpX2_nameHere ln S a0 post) : Met l yX2_nameHere (Cond.code yX2_nameHere prog_4_method_16_code 3 (Option.some Jvm.ClassFile.FieldType.int) :: gtbl) rmX2_nameHere (va_Pc [.ref (gz g + a0)] (AtP g N ln S)) (QI g N ln post) 0 0 (gF g) := by
  refine m_of (by decide) (Nat.le_of_ble_eq_true rfl) ?_
  intro p e s m below meth c ls F hr I hl
  have hl : lv_has ls 3 [(0, .ref (gz g + a0))] := hl
  unfold wpX2_nameHere at h
  have hj_50 : ∀ (S : HC) (H : Heap) (locs : List Loc) (ls : Array Slot) (x0 : Nat) (t0 : Nat), x0 < N → kd x0 = 2 → t0 < 6 → BX2_nameHere_50 ln post S x0 t0 → Inv g N ln S s H locs → lv_has ls 3 [(0, .ref (gz g + x0))] → W p l e rmX2_nameHere s m ([.ref (gz g + a0)] : List Value).toArray below meth c H locs 0 0 (MQ below (QI g N ln post) ([.ref (gz g + a0)] : List Value).toArray s 0 0 (gF g)) (F0 m 50 ls [.ref (gK g t0)]) := by
    intro S H locs ls x0 t0 hr_x0 hk_x0 hs_t0 h I hl
    unfold BX2_nameHere_50 at h
    refine lv_astore_n (lv' := [(1, .ref (gK g t0)), (0, .ref (gz g + x0))]) F.1 F.2.1 dX2_nameHere_50 rfl hl (by decide) rfl (fun ls hl => ?_)
    refine lv_aload_n F.1 F.2.1 dX2_nameHere_51 rfl (lv_at hl 0 rfl) ?_
    refine lv_aload_n F.1 F.2.1 dX2_nameHere_52 rfl (lv_at hl 1 rfl) ?_
    refine r_getN F I hr_x0 hk_x0 fX2_12 (f := 6) rfl (by decide) dX2_nameHere_53 h (fun b1 hr_b1 hk_b1 h => ?_)
    refine lv_aload_n F.1 F.2.1 dX2_nameHere_56 rfl (lv_at hl 1 rfl) ?_
    refine r_getI F I hr_x0 hk_x0 fX2_22 rfl dX2_nameHere_57 h (fun z2 h => ?_)
    refine g_I I (run_V (As := [.int z2]) (rest := [.ref (gK g t0)]) F I hr_b1 hk_b1 (by decide) kX2_72 (ctX6_at hr_b1 hk_b1 h) ⟨rfl, rfl⟩ ⟨Nat.le_of_ble_eq_true rfl, Nat.le_of_ble_eq_true rfl⟩ rfl hl.1 rfl (Nat.le_of_ble_eq_true rfl) ⟨Nat.le_of_ble_eq_true rfl, Nat.le_of_ble_eq_true rfl⟩ dX2_nameHere_60) (fun z3 S H locs I h => ?_)
    refine r_i2c F dX2_nameHere_63 h (fun z4 h => ?_)
    refine g_I I (run_T (As := [.int z4]) (rest := []) F I hs_t0 kX2_128 (ctJ0_indexOf_0f7a4 hs_t0 h) ⟨rfl, rfl⟩ ⟨Nat.le_of_ble_eq_true rfl, Nat.le_of_ble_eq_true rfl⟩ rfl hl.1 rfl (Nat.le_of_ble_eq_true rfl) ⟨Nat.le_of_ble_eq_true rfl, Nat.le_of_ble_eq_true rfl⟩ dX2_nameHere_64) (fun z5 S H locs I h => ?_)
    refine lv_istore_n (lv' := [(2, .int z5), (1, .ref (gK g t0)), (0, .ref (gz g + x0))]) F.1 F.2.1 dX2_nameHere_67 rfl hl (by decide) rfl (fun ls hl => ?_)
    refine lv_iload_n F.1 F.2.1 dX2_nameHere_68 rfl (lv_at hl 0 rfl) ?_
    refine r_if_ge (tgt := 76) F dX2_nameHere_69 (by decide) h (fun h => ?_) (fun h => ?_)
    · refine lv_sipush (v := 10000) F.1 F.2.1 dX2_nameHere_76 (by decide) ?_
      refine lv_iload_n F.1 F.2.1 dX2_nameHere_79 rfl (lv_at hl 0 rfl) ?_
      refine r_iadd F dX2_nameHere_80 h (fun z6 h => ?_)
      exact r_ireturn F I ⟨hr.1, hr.2.1, trivial⟩ h dX2_nameHere_81
    · refine lv_iconst (v := -1) F.1 F.2.1 dX2_nameHere_72 (by decide) ?_
      refine lv_goto (tgt := 81) F.1 F.2.1 dX2_nameHere_73 (by decide) ?_
      exact r_ireturn F I ⟨hr.1, hr.2.1, trivial⟩ h dX2_nameHere_81
  have hj_21 : ∀ (S : HC) (H : Heap) (locs : List Loc) (ls : Array Slot), BX2_nameHere_21 ln post S  → Inv g N ln S s H locs → lv_has ls 3 [] → W p l e rmX2_nameHere s m ([.ref (gz g + a0)] : List Value).toArray below meth c H locs 0 0 (MQ below (QI g N ln post) ([.ref (gz g + a0)] : List Value).toArray s 0 0 (gF g)) (F0 m 21 ls []) := by
    intro S H locs ls h I hl
    unfold BX2_nameHere_21 at h
    refine lv_iconst (v := -1) F.1 F.2.1 dX2_nameHere_21 (by decide) ?_
    exact r_ireturn F I ⟨hr.1, hr.2.1, trivial⟩ h dX2_nameHere_22
  refine lv_aload_n F.1 F.2.1 dX2_nameHere_0 rfl (lv_at hl 0 rfl) ?_
  refine r_getI F I hr_a0 hk_a0 fX2_18 rfl dX2_nameHere_1 h (fun z7 h => ?_)
  refine lv_iconst (v := 1) F.1 F.2.1 dX2_nameHere_4 (by decide) ?_
  refine r_icmp_ne (tgt := 21) F dX2_nameHere_5 (by decide) h (fun h => ?_) (fun h => ?_)
  · exact hj_21 S _ _ _   h I (lv_sub hl [] rfl)
  · refine lv_aload_n F.1 F.2.1 dX2_nameHere_8 rfl (lv_at hl 0 rfl) ?_
    refine r_getI F I hr_a0 hk_a0 fX2_25 rfl dX2_nameHere_9 h (fun z8 h => ?_)
    refine lv_aload_n F.1 F.2.1 dX2_nameHere_12 rfl (lv_at hl 0 rfl) ?_
    refine r_getI F I hr_a0 hk_a0 fX2_22 rfl dX2_nameHere_13 h (fun z9 h => ?_)
    refine r_isub F dX2_nameHere_16 h (fun z10 h => ?_)
    refine lv_iconst (v := 1) F.1 F.2.1 dX2_nameHere_17 (by decide) ?_
    refine r_icmp_eq (tgt := 23) F dX2_nameHere_18 (by decide) h (fun h => ?_) (fun h => ?_)
    · refine lv_aload_n F.1 F.2.1 dX2_nameHere_23 rfl (lv_at hl 0 rfl) ?_
      refine r_getI F I hr_a0 hk_a0 fX2_28 rfl dX2_nameHere_24 h (fun z11 h => ?_)
      refine r_if_ne (tgt := 35) F dX2_nameHere_27 (by decide) h (fun h => ?_) (fun h => ?_)
      · refine lv_aload_n F.1 F.2.1 dX2_nameHere_35 rfl (lv_at hl 0 rfl) ?_
        refine r_getI F I hr_a0 hk_a0 fX2_28 rfl dX2_nameHere_36 h (fun z12 h => ?_)
        refine lv_iconst (v := 1) F.1 F.2.1 dX2_nameHere_39 (by decide) ?_
        refine r_icmp_ne (tgt := 48) F dX2_nameHere_40 (by decide) h (fun h => ?_) (fun h => ?_)
        · have hs_5 : (5 : Nat) < 6 := by decide
          refine va_ldcS F.1 F.2.1 F.2.2.2.1 (I.2.2.1.1.2.2 5 hs_5) dX2_nameHere_48 ?_
          exact hj_50 S _ _ _ a0 5 hr_a0 hk_a0 hs_5 h I (lv_sub hl [0] rfl)
        · have hs_4 : (4 : Nat) < 6 := by decide
          refine va_ldcS F.1 F.2.1 F.2.2.2.1 (I.2.2.1.1.2.2 4 hs_4) dX2_nameHere_43 ?_
          refine lv_goto (tgt := 50) F.1 F.2.1 dX2_nameHere_45 (by decide) ?_
          exact hj_50 S _ _ _ a0 4 hr_a0 hk_a0 hs_4 h I (lv_sub hl [0] rfl)
      · have hs_3 : (3 : Nat) < 6 := by decide
        refine va_ldcS F.1 F.2.1 F.2.2.2.1 (I.2.2.1.1.2.2 3 hs_3) dX2_nameHere_30 ?_
        refine lv_goto (tgt := 50) F.1 F.2.1 dX2_nameHere_32 (by decide) ?_
        exact hj_50 S _ _ _ a0 3 hr_a0 hk_a0 hs_3 h I (lv_sub hl [0] rfl)
    · exact hj_21 S _ _ _   h I (lv_sub hl [] rfl)
theorem bdX2_readLeaf_0 : ∀ q ∈ ([(0, .aload_n 0, 1), (1, .getfield 18, 3), (4, .iconst 2, 1), (5, .if_icmp .ne 10, 3), (8, .aload_n 0, 1), (9, .invokevirtual 116, 3), (12, .goto 7, 3), (15, .aload_n 0, 1), (16, .invokevirtual 119, 3), (19, .istore_n 1, 1), (20, .iload_n 1, 1), (21, .ifCond .ge 8, 3), (24, .aload_n 0, 1), (25, .invokevirtual 57, 3), (28, .return_, 1), (29, .aload_n 0, 1), (30, .iload_n 1, 1), (31, .invokevirtual 103, 3), (34, .aload_n 0, 1), (35, .dup, 1), (36, .getfield 38, 3), (39, .iconst 1, 1), (40, .iadd, 1), (41, .putfield 38, 3), (44, .aload_n 0, 1), (45, .invokevirtual 50, 3), (48, .return_, 1)] : List (Nat × Jvm.ClassFile.Instr × Nat)), decode cX2_readLeaf q.1 = .ok q.2 := chk_ok _ 0 _ rfl (by decide +kernel)
theorem dX2_readLeaf_0 : decode cX2_readLeaf 0 = .ok (.aload_n 0, 1) := bdX2_readLeaf_0 (0, .aload_n 0, 1) (List.mem_of_getElem? (i := 0) rfl)
theorem dX2_readLeaf_1 : decode cX2_readLeaf 1 = .ok (.getfield 18, 3) := bdX2_readLeaf_0 (1, .getfield 18, 3) (List.mem_of_getElem? (i := 1) rfl)
theorem dX2_readLeaf_4 : decode cX2_readLeaf 4 = .ok (.iconst 2, 1) := bdX2_readLeaf_0 (4, .iconst 2, 1) (List.mem_of_getElem? (i := 2) rfl)
theorem dX2_readLeaf_5 : decode cX2_readLeaf 5 = .ok (.if_icmp .ne 10, 3) := bdX2_readLeaf_0 (5, .if_icmp .ne 10, 3) (List.mem_of_getElem? (i := 3) rfl)
theorem dX2_readLeaf_8 : decode cX2_readLeaf 8 = .ok (.aload_n 0, 1) := bdX2_readLeaf_0 (8, .aload_n 0, 1) (List.mem_of_getElem? (i := 4) rfl)
theorem dX2_readLeaf_9 : decode cX2_readLeaf 9 = .ok (.invokevirtual 116, 3) := bdX2_readLeaf_0 (9, .invokevirtual 116, 3) (List.mem_of_getElem? (i := 5) rfl)
theorem dX2_readLeaf_12 : decode cX2_readLeaf 12 = .ok (.goto 7, 3) := bdX2_readLeaf_0 (12, .goto 7, 3) (List.mem_of_getElem? (i := 6) rfl)
theorem dX2_readLeaf_15 : decode cX2_readLeaf 15 = .ok (.aload_n 0, 1) := bdX2_readLeaf_0 (15, .aload_n 0, 1) (List.mem_of_getElem? (i := 7) rfl)
theorem dX2_readLeaf_16 : decode cX2_readLeaf 16 = .ok (.invokevirtual 119, 3) := bdX2_readLeaf_0 (16, .invokevirtual 119, 3) (List.mem_of_getElem? (i := 8) rfl)
theorem dX2_readLeaf_19 : decode cX2_readLeaf 19 = .ok (.istore_n 1, 1) := bdX2_readLeaf_0 (19, .istore_n 1, 1) (List.mem_of_getElem? (i := 9) rfl)
theorem dX2_readLeaf_20 : decode cX2_readLeaf 20 = .ok (.iload_n 1, 1) := bdX2_readLeaf_0 (20, .iload_n 1, 1) (List.mem_of_getElem? (i := 10) rfl)
theorem dX2_readLeaf_21 : decode cX2_readLeaf 21 = .ok (.ifCond .ge 8, 3) := bdX2_readLeaf_0 (21, .ifCond .ge 8, 3) (List.mem_of_getElem? (i := 11) rfl)
theorem dX2_readLeaf_24 : decode cX2_readLeaf 24 = .ok (.aload_n 0, 1) := bdX2_readLeaf_0 (24, .aload_n 0, 1) (List.mem_of_getElem? (i := 12) rfl)
theorem dX2_readLeaf_25 : decode cX2_readLeaf 25 = .ok (.invokevirtual 57, 3) := bdX2_readLeaf_0 (25, .invokevirtual 57, 3) (List.mem_of_getElem? (i := 13) rfl)
theorem dX2_readLeaf_28 : decode cX2_readLeaf 28 = .ok (.return_, 1) := bdX2_readLeaf_0 (28, .return_, 1) (List.mem_of_getElem? (i := 14) rfl)
theorem dX2_readLeaf_29 : decode cX2_readLeaf 29 = .ok (.aload_n 0, 1) := bdX2_readLeaf_0 (29, .aload_n 0, 1) (List.mem_of_getElem? (i := 15) rfl)
theorem dX2_readLeaf_30 : decode cX2_readLeaf 30 = .ok (.iload_n 1, 1) := bdX2_readLeaf_0 (30, .iload_n 1, 1) (List.mem_of_getElem? (i := 16) rfl)
theorem dX2_readLeaf_31 : decode cX2_readLeaf 31 = .ok (.invokevirtual 103, 3) := bdX2_readLeaf_0 (31, .invokevirtual 103, 3) (List.mem_of_getElem? (i := 17) rfl)
theorem dX2_readLeaf_34 : decode cX2_readLeaf 34 = .ok (.aload_n 0, 1) := bdX2_readLeaf_0 (34, .aload_n 0, 1) (List.mem_of_getElem? (i := 18) rfl)
theorem dX2_readLeaf_35 : decode cX2_readLeaf 35 = .ok (.dup, 1) := bdX2_readLeaf_0 (35, .dup, 1) (List.mem_of_getElem? (i := 19) rfl)
theorem dX2_readLeaf_36 : decode cX2_readLeaf 36 = .ok (.getfield 38, 3) := bdX2_readLeaf_0 (36, .getfield 38, 3) (List.mem_of_getElem? (i := 20) rfl)
theorem dX2_readLeaf_39 : decode cX2_readLeaf 39 = .ok (.iconst 1, 1) := bdX2_readLeaf_0 (39, .iconst 1, 1) (List.mem_of_getElem? (i := 21) rfl)
theorem dX2_readLeaf_40 : decode cX2_readLeaf 40 = .ok (.iadd, 1) := bdX2_readLeaf_0 (40, .iadd, 1) (List.mem_of_getElem? (i := 22) rfl)
theorem dX2_readLeaf_41 : decode cX2_readLeaf 41 = .ok (.putfield 38, 3) := bdX2_readLeaf_0 (41, .putfield 38, 3) (List.mem_of_getElem? (i := 23) rfl)
theorem dX2_readLeaf_44 : decode cX2_readLeaf 44 = .ok (.aload_n 0, 1) := bdX2_readLeaf_0 (44, .aload_n 0, 1) (List.mem_of_getElem? (i := 24) rfl)
theorem dX2_readLeaf_45 : decode cX2_readLeaf 45 = .ok (.invokevirtual 50, 3) := bdX2_readLeaf_0 (45, .invokevirtual 50, 3) (List.mem_of_getElem? (i := 25) rfl)
theorem dX2_readLeaf_48 : decode cX2_readLeaf 48 = .ok (.return_, 1) := bdX2_readLeaf_0 (48, .return_, 1) (List.mem_of_getElem? (i := 26) rfl)
theorem kX2_103 : mthV RX2 103 2 yX2_write prog_4_method_17_code 2 (Option.none : Option Jvm.ClassFile.FieldType) 1 := ⟨⟨⟨tw_726, tw_63, tw_729⟩, rfl, by decide +kernel⟩, tw_728, tw_15, rfl⟩
theorem kX2_119 : mthV RX2 119 2 yX2_nameHere prog_4_method_16_code 3 (Option.some Jvm.ClassFile.FieldType.int) 0 := ⟨⟨⟨tw_742, tw_63, tw_745⟩, rfl, by decide +kernel⟩, tw_744, tw_19, rfl⟩
theorem kX2_116 : mthV RX2 116 2 yX2_numberHere prog_4_method_15_code 3 (Option.some Jvm.ClassFile.FieldType.int) 0 := ⟨⟨⟨tw_738, tw_63, tw_741⟩, rfl, by decide +kernel⟩, tw_740, tw_18, rfl⟩
def BX2_readLeaf_19 (ln : Nat → Nat) (post : HC → Prop) (S : HC) (x0 : Nat) (t0 : Int32) : Prop := if 0 ≤ t0 then (wpX2_write ln S x0 t0 fun S => lt_ (hI S x0 7) fun z1 => lt_ (z1 + (1 : Int32)) fun z2 => lt_ (sI S x0 7 z2) fun S => wpX2_advance ln S x0 fun S => post S) else (wpX2_fail ln S x0 fun S => post S)
def wpX2_readLeaf (ln : Nat → Nat) (S : HC) (a0 : Nat) (post : HC → Prop) : Prop := lt_ (hI S a0 1) fun z3 => if z3 = (2 : Int32) then (wpX2_numberHere ln S a0 fun z5 S => BX2_readLeaf_19 ln post S a0 z5) else (wpX2_nameHere ln S a0 fun z4 S => BX2_readLeaf_19 ln post S a0 z4)
abbrev rmX2_readLeaf : Room := { frames := 5, cells := 0, slots := 0, locals := 113 }
set_option maxHeartbeats 4000000 in
set_option maxRecDepth 100000 in
theorem ctX2_readLeaf {l : Launch} {g : GX} {N : Nat} {ln : Nat → Nat} {S : HC} {a0 : Nat} {post : HC → Prop} (hr_a0 : a0 < N) (hk_a0 : kd a0 = 2) (h : wpX2_readLeaf ln S a0 post) : Met l yX2_readLeaf (Cond.code yX2_readLeaf prog_4_method_14_code 2 (Option.none : Option Jvm.ClassFile.FieldType) :: gtbl) rmX2_readLeaf (va_Pc [.ref (gz g + a0)] (AtP g N ln S)) (QV g N ln post) 0 0 (gF g) := by
  refine m_of (by decide) (Nat.le_of_ble_eq_true rfl) ?_
  intro p e s m below meth c ls F hr I hl
  have hl : lv_has ls 2 [(0, .ref (gz g + a0))] := hl
  unfold wpX2_readLeaf at h
  have hj_19 : ∀ (S : HC) (H : Heap) (locs : List Loc) (ls : Array Slot) (x0 : Nat) (t0 : Int32), x0 < N → kd x0 = 2 → BX2_readLeaf_19 ln post S x0 t0 → Inv g N ln S s H locs → lv_has ls 2 [(0, .ref (gz g + x0))] → W p l e rmX2_readLeaf s m ([.ref (gz g + a0)] : List Value).toArray below meth c H locs 0 0 (MQ below (QV g N ln post) ([.ref (gz g + a0)] : List Value).toArray s 0 0 (gF g)) (F0 m 19 ls [.int t0]) := by
    intro S H locs ls x0 t0 hr_x0 hk_x0 h I hl
    unfold BX2_readLeaf_19 at h
    refine lv_istore_n (lv' := [(1, .int t0), (0, .ref (gz g + x0))]) F.1 F.2.1 dX2_readLeaf_19 rfl hl (by decide) rfl (fun ls hl => ?_)
    refine lv_iload_n F.1 F.2.1 dX2_readLeaf_20 rfl (lv_at hl 0 rfl) ?_
    refine r_if_ge (tgt := 29) F dX2_readLeaf_21 (by decide) h (fun h => ?_) (fun h => ?_)
    · refine lv_aload_n F.1 F.2.1 dX2_readLeaf_29 rfl (lv_at hl 1 rfl) ?_
      refine lv_iload_n F.1 F.2.1 dX2_readLeaf_30 rfl (lv_at hl 0 rfl) ?_
      refine g_V I (run_V (As := [.int t0]) (rest := []) F I hr_x0 hk_x0 (by decide) kX2_103 (ctX2_write hr_x0 hk_x0 h) ⟨rfl, rfl⟩ ⟨Nat.le_of_ble_eq_true rfl, Nat.le_of_ble_eq_true rfl⟩ rfl hl.1 rfl (Nat.le_of_ble_eq_true rfl) ⟨Nat.le_of_ble_eq_true rfl, Nat.le_of_ble_eq_true rfl⟩ dX2_readLeaf_31) (fun S H locs I h => ?_)
      refine lv_aload_n F.1 F.2.1 dX2_readLeaf_34 rfl (lv_at hl 1 rfl) ?_
      refine lv_dup F.1 F.2.1 dX2_readLeaf_35 rfl ?_
      refine r_getI F I hr_x0 hk_x0 fX2_38 rfl dX2_readLeaf_36 h (fun z1 h => ?_)
      refine lv_iconst (v := 1) F.1 F.2.1 dX2_readLeaf_39 (by decide) ?_
      refine r_iadd F dX2_readLeaf_40 h (fun z2 h => ?_)
      refine r_putI F I hr_x0 hk_x0 fX2_38 rfl (Or.inl rfl) ⟨rfl, rfl⟩ dX2_readLeaf_41 h (fun S H locs I h => ?_)
      refine lv_aload_n F.1 F.2.1 dX2_readLeaf_44 rfl (lv_at hl 1 rfl) ?_
      refine g_V I (run_V (As := []) (rest := []) F I hr_x0 hk_x0 (by decide) kX2_50 (ctX2_advance hr_x0 hk_x0 h) ⟨rfl, rfl⟩ ⟨Nat.le_of_ble_eq_true rfl, Nat.le_of_ble_eq_true rfl⟩ rfl hl.1 rfl (Nat.le_of_ble_eq_true rfl) ⟨Nat.le_of_ble_eq_true rfl, Nat.le_of_ble_eq_true rfl⟩ dX2_readLeaf_45) (fun S H locs I h => ?_)
      exact r_vreturn F I ⟨hr.1, hr.2.1, trivial⟩ h dX2_readLeaf_48
    · refine lv_aload_n F.1 F.2.1 dX2_readLeaf_24 rfl (lv_at hl 1 rfl) ?_
      refine g_V I (run_V (As := []) (rest := []) F I hr_x0 hk_x0 (by decide) kX2_57 (ctX2_fail hr_x0 hk_x0 h) ⟨rfl, rfl⟩ ⟨Nat.le_of_ble_eq_true rfl, Nat.le_of_ble_eq_true rfl⟩ rfl hl.1 rfl (Nat.le_of_ble_eq_true rfl) ⟨Nat.le_of_ble_eq_true rfl, Nat.le_of_ble_eq_true rfl⟩ dX2_readLeaf_25) (fun S H locs I h => ?_)
      exact r_vreturn F I ⟨hr.1, hr.2.1, trivial⟩ h dX2_readLeaf_28
  refine lv_aload_n F.1 F.2.1 dX2_readLeaf_0 rfl (lv_at hl 0 rfl) ?_
  refine r_getI F I hr_a0 hk_a0 fX2_18 rfl dX2_readLeaf_1 h (fun z3 h => ?_)
  refine lv_iconst (v := 2) F.1 F.2.1 dX2_readLeaf_4 (by decide) ?_
  refine r_icmp_ne (tgt := 15) F dX2_readLeaf_5 (by decide) h (fun h => ?_) (fun h => ?_)
  · refine lv_aload_n F.1 F.2.1 dX2_readLeaf_15 rfl (lv_at hl 0 rfl) ?_
    refine g_I I (run_V (As := []) (rest := []) F I hr_a0 hk_a0 (by decide) kX2_119 (ctX2_nameHere hr_a0 hk_a0 h) ⟨rfl, rfl⟩ ⟨Nat.le_of_ble_eq_true rfl, Nat.le_of_ble_eq_true rfl⟩ rfl hl.1 rfl (Nat.le_of_ble_eq_true rfl) ⟨Nat.le_of_ble_eq_true rfl, Nat.le_of_ble_eq_true rfl⟩ dX2_readLeaf_16) (fun z4 S H locs I h => ?_)
    exact hj_19 S _ _ _ a0 z4 hr_a0 hk_a0 h I (lv_sub hl [0] rfl)
  · refine lv_aload_n F.1 F.2.1 dX2_readLeaf_8 rfl (lv_at hl 0 rfl) ?_
    refine g_I I (run_V (As := []) (rest := []) F I hr_a0 hk_a0 (by decide) kX2_116 (ctX2_numberHere hr_a0 hk_a0 h) ⟨rfl, rfl⟩ ⟨Nat.le_of_ble_eq_true rfl, Nat.le_of_ble_eq_true rfl⟩ rfl hl.1 rfl (Nat.le_of_ble_eq_true rfl) ⟨Nat.le_of_ble_eq_true rfl, Nat.le_of_ble_eq_true rfl⟩ dX2_readLeaf_9) (fun z5 S H locs I h => ?_)
    refine lv_goto (tgt := 19) F.1 F.2.1 dX2_readLeaf_12 (by decide) ?_
    exact hj_19 S _ _ _ a0 z5 hr_a0 hk_a0 h I (lv_sub hl [0] rfl)
theorem bdX2_isWord_0 : ∀ q ∈ ([(0, .aload_n 0, 1), (1, .getfield 18, 3), (4, .iconst 1, 1), (5, .if_icmp .ne 19, 3), (8, .aload_n 0, 1), (9, .getfield 25, 3), (12, .aload_n 0, 1), (13, .getfield 22, 3), (16, .isub, 1), (17, .aload_n 1, 1), (18, .invokevirtual 89, 3), (21, .if_icmp .eq 5, 3), (24, .iconst 0, 1), (25, .ireturn, 1), (26, .iconst 0, 1), (27, .istore_n 2, 1), (28, .iload_n 2, 1), (29, .aload_n 1, 1), (30, .invokevirtual 89, 3), (33, .if_icmp .ge 32, 3), (36, .aload_n 0, 1), (37, .getfield 12, 3), (40, .aload_n 0, 1), (41, .getfield 22, 3), (44, .iload_n 2, 1), (45, .iadd, 1), (46, .invokevirtual 72, 3), (49, .aload_n 1, 1), (50, .iload_n 2, 1), (51, .invokevirtual 93, 3), (54, .if_icmp .eq 5, 3), (57, .iconst 0, 1), (58, .ireturn, 1), (59, .iinc 2 1, 3), (62, .goto (-34), 3), (65, .iconst 1, 1), (66, .ireturn, 1)] : List (Nat × Jvm.ClassFile.Instr × Nat)), decode cX2_isWord q.1 = .ok q.2 := chk_ok _ 0 _ rfl (by decide +kernel)
theorem dX2_isWord_0 : decode cX2_isWord 0 = .ok (.aload_n 0, 1) := bdX2_isWord_0 (0, .aload_n 0, 1) (List.mem_of_getElem? (i := 0) rfl)
theorem dX2_isWord_1 : decode cX2_isWord 1 = .ok (.getfield 18, 3) := bdX2_isWord_0 (1, .getfield 18, 3) (List.mem_of_getElem? (i := 1) rfl)
theorem dX2_isWord_4 : decode cX2_isWord 4 = .ok (.iconst 1, 1) := bdX2_isWord_0 (4, .iconst 1, 1) (List.mem_of_getElem? (i := 2) rfl)
theorem dX2_isWord_5 : decode cX2_isWord 5 = .ok (.if_icmp .ne 19, 3) := bdX2_isWord_0 (5, .if_icmp .ne 19, 3) (List.mem_of_getElem? (i := 3) rfl)
theorem dX2_isWord_8 : decode cX2_isWord 8 = .ok (.aload_n 0, 1) := bdX2_isWord_0 (8, .aload_n 0, 1) (List.mem_of_getElem? (i := 4) rfl)
theorem dX2_isWord_9 : decode cX2_isWord 9 = .ok (.getfield 25, 3) := bdX2_isWord_0 (9, .getfield 25, 3) (List.mem_of_getElem? (i := 5) rfl)
theorem dX2_isWord_12 : decode cX2_isWord 12 = .ok (.aload_n 0, 1) := bdX2_isWord_0 (12, .aload_n 0, 1) (List.mem_of_getElem? (i := 6) rfl)
theorem dX2_isWord_13 : decode cX2_isWord 13 = .ok (.getfield 22, 3) := bdX2_isWord_0 (13, .getfield 22, 3) (List.mem_of_getElem? (i := 7) rfl)
theorem dX2_isWord_16 : decode cX2_isWord 16 = .ok (.isub, 1) := bdX2_isWord_0 (16, .isub, 1) (List.mem_of_getElem? (i := 8) rfl)
theorem dX2_isWord_17 : decode cX2_isWord 17 = .ok (.aload_n 1, 1) := bdX2_isWord_0 (17, .aload_n 1, 1) (List.mem_of_getElem? (i := 9) rfl)
theorem dX2_isWord_18 : decode cX2_isWord 18 = .ok (.invokevirtual 89, 3) := bdX2_isWord_0 (18, .invokevirtual 89, 3) (List.mem_of_getElem? (i := 10) rfl)
theorem dX2_isWord_21 : decode cX2_isWord 21 = .ok (.if_icmp .eq 5, 3) := bdX2_isWord_0 (21, .if_icmp .eq 5, 3) (List.mem_of_getElem? (i := 11) rfl)
theorem dX2_isWord_24 : decode cX2_isWord 24 = .ok (.iconst 0, 1) := bdX2_isWord_0 (24, .iconst 0, 1) (List.mem_of_getElem? (i := 12) rfl)
theorem dX2_isWord_25 : decode cX2_isWord 25 = .ok (.ireturn, 1) := bdX2_isWord_0 (25, .ireturn, 1) (List.mem_of_getElem? (i := 13) rfl)
theorem dX2_isWord_26 : decode cX2_isWord 26 = .ok (.iconst 0, 1) := bdX2_isWord_0 (26, .iconst 0, 1) (List.mem_of_getElem? (i := 14) rfl)
theorem dX2_isWord_27 : decode cX2_isWord 27 = .ok (.istore_n 2, 1) := bdX2_isWord_0 (27, .istore_n 2, 1) (List.mem_of_getElem? (i := 15) rfl)
theorem dX2_isWord_28 : decode cX2_isWord 28 = .ok (.iload_n 2, 1) := bdX2_isWord_0 (28, .iload_n 2, 1) (List.mem_of_getElem? (i := 16) rfl)
theorem dX2_isWord_29 : decode cX2_isWord 29 = .ok (.aload_n 1, 1) := bdX2_isWord_0 (29, .aload_n 1, 1) (List.mem_of_getElem? (i := 17) rfl)
theorem dX2_isWord_30 : decode cX2_isWord 30 = .ok (.invokevirtual 89, 3) := bdX2_isWord_0 (30, .invokevirtual 89, 3) (List.mem_of_getElem? (i := 18) rfl)
theorem dX2_isWord_33 : decode cX2_isWord 33 = .ok (.if_icmp .ge 32, 3) := bdX2_isWord_0 (33, .if_icmp .ge 32, 3) (List.mem_of_getElem? (i := 19) rfl)
theorem dX2_isWord_36 : decode cX2_isWord 36 = .ok (.aload_n 0, 1) := bdX2_isWord_0 (36, .aload_n 0, 1) (List.mem_of_getElem? (i := 20) rfl)
theorem dX2_isWord_37 : decode cX2_isWord 37 = .ok (.getfield 12, 3) := bdX2_isWord_0 (37, .getfield 12, 3) (List.mem_of_getElem? (i := 21) rfl)
theorem dX2_isWord_40 : decode cX2_isWord 40 = .ok (.aload_n 0, 1) := bdX2_isWord_0 (40, .aload_n 0, 1) (List.mem_of_getElem? (i := 22) rfl)
theorem dX2_isWord_41 : decode cX2_isWord 41 = .ok (.getfield 22, 3) := bdX2_isWord_0 (41, .getfield 22, 3) (List.mem_of_getElem? (i := 23) rfl)
theorem dX2_isWord_44 : decode cX2_isWord 44 = .ok (.iload_n 2, 1) := bdX2_isWord_0 (44, .iload_n 2, 1) (List.mem_of_getElem? (i := 24) rfl)
theorem dX2_isWord_45 : decode cX2_isWord 45 = .ok (.iadd, 1) := bdX2_isWord_0 (45, .iadd, 1) (List.mem_of_getElem? (i := 25) rfl)
theorem dX2_isWord_46 : decode cX2_isWord 46 = .ok (.invokevirtual 72, 3) := bdX2_isWord_0 (46, .invokevirtual 72, 3) (List.mem_of_getElem? (i := 26) rfl)
theorem dX2_isWord_49 : decode cX2_isWord 49 = .ok (.aload_n 1, 1) := bdX2_isWord_0 (49, .aload_n 1, 1) (List.mem_of_getElem? (i := 27) rfl)
theorem dX2_isWord_50 : decode cX2_isWord 50 = .ok (.iload_n 2, 1) := bdX2_isWord_0 (50, .iload_n 2, 1) (List.mem_of_getElem? (i := 28) rfl)
theorem dX2_isWord_51 : decode cX2_isWord 51 = .ok (.invokevirtual 93, 3) := bdX2_isWord_0 (51, .invokevirtual 93, 3) (List.mem_of_getElem? (i := 29) rfl)
theorem dX2_isWord_54 : decode cX2_isWord 54 = .ok (.if_icmp .eq 5, 3) := bdX2_isWord_0 (54, .if_icmp .eq 5, 3) (List.mem_of_getElem? (i := 30) rfl)
theorem dX2_isWord_57 : decode cX2_isWord 57 = .ok (.iconst 0, 1) := bdX2_isWord_0 (57, .iconst 0, 1) (List.mem_of_getElem? (i := 31) rfl)
theorem dX2_isWord_58 : decode cX2_isWord 58 = .ok (.ireturn, 1) := bdX2_isWord_0 (58, .ireturn, 1) (List.mem_of_getElem? (i := 32) rfl)
theorem dX2_isWord_59 : decode cX2_isWord 59 = .ok (.iinc 2 1, 3) := bdX2_isWord_0 (59, .iinc 2 1, 3) (List.mem_of_getElem? (i := 33) rfl)
theorem dX2_isWord_62 : decode cX2_isWord 62 = .ok (.goto (-34), 3) := bdX2_isWord_0 (62, .goto (-34), 3) (List.mem_of_getElem? (i := 34) rfl)
theorem dX2_isWord_65 : decode cX2_isWord 65 = .ok (.iconst 1, 1) := bdX2_isWord_0 (65, .iconst 1, 1) (List.mem_of_getElem? (i := 35) rfl)
theorem dX2_isWord_66 : decode cX2_isWord 66 = .ok (.ireturn, 1) := bdX2_isWord_0 (66, .ireturn, 1) (List.mem_of_getElem? (i := 36) rfl)
theorem kX2_89 : mthT RX2 89 yJ0_length_8abf5 prog_14_method_54_code 1 (Option.some Jvm.ClassFile.FieldType.int) 0 := ⟨⟨⟨tw_660, tw_71, tw_663⟩, rfl, by decide +kernel⟩, tw_661, tw_662⟩
theorem kX2_93 : mthT RX2 93 yJ0_charAt_5068e prog_14_method_56_code 2 (Option.some Jvm.ClassFile.FieldType.char) 1 := ⟨⟨⟨tw_670, tw_71, tw_673⟩, rfl, by decide +kernel⟩, tw_671, tw_672⟩
def LX2_isWord_28 (ln : Nat → Nat) (post : Int32 → HC → Prop) : Nat → HC → Nat → Nat → Int32 → Prop
  | 0 => fun _ _ _ _ => False
  | n28 + 1 => fun S x0 x1 x2 => wpJ0_length_8abf5 ln S x1 fun z1 S => if z1 ≤ x2 then (rb_ .boolean (1 : Int32) (post (1 : Int32) S)) else (dn_ (hR S x0 0) fun b2 => lt_ (hI S x0 2) fun z3 => lt_ (z3 + x2) fun z4 => wpX6_at ln S b2 z4 fun z5 S => wpJ0_charAt_5068e ln S x1 x2 fun z6 S => if z5 = z6 then (lt_ (x2 + (1 : Int32)) fun z7 => (LX2_isWord_28 ln post n28) S x0 x1 z7) else (rb_ .boolean (0 : Int32) (post (0 : Int32) S)))
def BX2_isWord_24 (ln : Nat → Nat) (post : Int32 → HC → Prop) (S : HC)  : Prop := rb_ .boolean (0 : Int32) (post (0 : Int32) S)
def wpX2_isWord (ln : Nat → Nat) (S : HC) (a0 : Nat) (a1 : Nat) (post : Int32 → HC → Prop) : Prop := lt_ (hI S a0 1) fun z8 => if z8 = (1 : Int32) then (lt_ (hI S a0 3) fun z9 => lt_ (hI S a0 2) fun z10 => lt_ (z9 - z10) fun z11 => wpJ0_length_8abf5 ln S a1 fun z12 S => if z11 = z12 then (∃ n28, LX2_isWord_28 ln post n28 S a0 a1 (0 : Int32)) else (BX2_isWord_24 ln post S)) else (BX2_isWord_24 ln post S)
abbrev rmX2_isWord : Room := { frames := 4, cells := 0, slots := 0, locals := 85 }
set_option maxHeartbeats 4000000 in
set_option maxRecDepth 100000 in
theorem ctX2_isWord {l : Launch} {g : GX} {N : Nat} {ln : Nat → Nat} {S : HC} {a0 : Nat} {a1 : Nat} {post : Int32 → HC → Prop} (hr_a0 : a0 < N) (hk_a0 : kd a0 = 2) (hs_a1 : a1 < 6) (h : wpX2_isWord ln S a0 a1 post) : Met l yX2_isWord (Cond.code yX2_isWord prog_4_method_8_code 3 (Option.some Jvm.ClassFile.FieldType.boolean) :: gtbl) rmX2_isWord (va_Pc [.ref (gz g + a0), .ref (gK g a1)] (AtP g N ln S)) (QI g N ln post) 0 0 (gF g) := by
  refine m_of (by decide) (Nat.le_of_ble_eq_true rfl) ?_
  intro p e s m below meth c ls F hr I hl
  have hl : lv_has ls 3 [(0, .ref (gz g + a0)), (1, .ref (gK g a1))] := hl
  unfold wpX2_isWord at h
  have hl_28 : ∀ n28 : Nat, ∀ (S : HC) (H : Heap) (locs : List Loc) (ls : Array Slot) (x0 : Nat) (x1 : Nat) (x2 : Int32), x0 < N → kd x0 = 2 → x1 < 6 → LX2_isWord_28 ln post n28 S x0 x1 x2 → Inv g N ln S s H locs → lv_has ls 3 [(0, .ref (gz g + x0)), (1, .ref (gK g x1)), (2, .int x2)] → W p l e rmX2_isWord s m ([.ref (gz g + a0), .ref (gK g a1)] : List Value).toArray below meth c H locs 0 0 (MQ below (QI g N ln post) ([.ref (gz g + a0), .ref (gK g a1)] : List Value).toArray s 0 0 (gF g)) (F0 m 28 ls []) := by
    intro n28
    induction n28 with
    | zero =>
      intro S H locs ls x0 x1 x2 hr_x0 hk_x0 hs_x1 h I hl
      exact h.elim
    | succ n28 ih =>
      have hk28 := ih
      intro S H locs ls x0 x1 x2 hr_x0 hk_x0 hs_x1 h I hl
      rw [LX2_isWord_28] at h
      refine lv_iload_n F.1 F.2.1 dX2_isWord_28 rfl (lv_at hl 2 rfl) ?_
      refine lv_aload_n F.1 F.2.1 dX2_isWord_29 rfl (lv_at hl 1 rfl) ?_
      refine g_I I (run_T (As := []) (rest := [.int x2]) F I hs_x1 kX2_89 (ctJ0_length_8abf5 hs_x1 h) ⟨rfl, rfl⟩ ⟨Nat.le_of_ble_eq_true rfl, Nat.le_of_ble_eq_true rfl⟩ rfl hl.1 rfl (Nat.le_of_ble_eq_true rfl) ⟨Nat.le_of_ble_eq_true rfl, Nat.le_of_ble_eq_true rfl⟩ dX2_isWord_30) (fun z1 S H locs I h => ?_)
      refine r_icmp_ge (tgt := 65) F dX2_isWord_33 (by decide) h (fun h => ?_) (fun h => ?_)
      · refine lv_iconst (v := 1) F.1 F.2.1 dX2_isWord_65 (by decide) ?_
        exact r_zreturn F I ⟨hr.1, hr.2.1, trivial⟩ h dX2_isWord_66
      · refine lv_aload_n F.1 F.2.1 dX2_isWord_36 rfl (lv_at hl 0 rfl) ?_
        refine r_getN F I hr_x0 hk_x0 fX2_12 (f := 6) rfl (by decide) dX2_isWord_37 h (fun b2 hr_b2 hk_b2 h => ?_)
        refine lv_aload_n F.1 F.2.1 dX2_isWord_40 rfl (lv_at hl 0 rfl) ?_
        refine r_getI F I hr_x0 hk_x0 fX2_22 rfl dX2_isWord_41 h (fun z3 h => ?_)
        refine lv_iload_n F.1 F.2.1 dX2_isWord_44 rfl (lv_at hl 2 rfl) ?_
        refine r_iadd F dX2_isWord_45 h (fun z4 h => ?_)
        refine g_I I (run_V (As := [.int z4]) (rest := []) F I hr_b2 hk_b2 (by decide) kX2_72 (ctX6_at hr_b2 hk_b2 h) ⟨rfl, rfl⟩ ⟨Nat.le_of_ble_eq_true rfl, Nat.le_of_ble_eq_true rfl⟩ rfl hl.1 rfl (Nat.le_of_ble_eq_true rfl) ⟨Nat.le_of_ble_eq_true rfl, Nat.le_of_ble_eq_true rfl⟩ dX2_isWord_46) (fun z5 S H locs I h => ?_)
        refine lv_aload_n F.1 F.2.1 dX2_isWord_49 rfl (lv_at hl 1 rfl) ?_
        refine lv_iload_n F.1 F.2.1 dX2_isWord_50 rfl (lv_at hl 2 rfl) ?_
        refine g_I I (run_T (As := [.int x2]) (rest := [.int z5]) F I hs_x1 kX2_93 (ctJ0_charAt_5068e hs_x1 h) ⟨rfl, rfl⟩ ⟨Nat.le_of_ble_eq_true rfl, Nat.le_of_ble_eq_true rfl⟩ rfl hl.1 rfl (Nat.le_of_ble_eq_true rfl) ⟨Nat.le_of_ble_eq_true rfl, Nat.le_of_ble_eq_true rfl⟩ dX2_isWord_51) (fun z6 S H locs I h => ?_)
        refine r_icmp_eq (tgt := 59) F dX2_isWord_54 (by decide) h (fun h => ?_) (fun h => ?_)
        · obtain ⟨z7, e_z7, h⟩ := lt_x h
          refine lv_iinc (v := z7) (lv' := [(2, .int z7), (0, .ref (gz g + x0)), (1, .ref (gK g x1))]) F.1 F.2.1 dX2_isWord_59 hl (k := 2) rfl (by rw [e_z7]; rfl) (by decide) rfl (fun ls hl => ?_)
          refine lv_goto (tgt := 28) F.1 F.2.1 dX2_isWord_62 (by decide) ?_
          exact hk28 S _ _ _ x0 x1 z7 hr_x0 hk_x0 hs_x1 h I (lv_sub hl [1, 2, 0] rfl)
        · refine lv_iconst (v := 0) F.1 F.2.1 dX2_isWord_57 (by decide) ?_
          exact r_zreturn F I ⟨hr.1, hr.2.1, trivial⟩ h dX2_isWord_58
  have hj_24 : ∀ (S : HC) (H : Heap) (locs : List Loc) (ls : Array Slot), BX2_isWord_24 ln post S  → Inv g N ln S s H locs → lv_has ls 3 [] → W p l e rmX2_isWord s m ([.ref (gz g + a0), .ref (gK g a1)] : List Value).toArray below meth c H locs 0 0 (MQ below (QI g N ln post) ([.ref (gz g + a0), .ref (gK g a1)] : List Value).toArray s 0 0 (gF g)) (F0 m 24 ls []) := by
    intro S H locs ls h I hl
    unfold BX2_isWord_24 at h
    refine lv_iconst (v := 0) F.1 F.2.1 dX2_isWord_24 (by decide) ?_
    exact r_zreturn F I ⟨hr.1, hr.2.1, trivial⟩ h dX2_isWord_25
  refine lv_aload_n F.1 F.2.1 dX2_isWord_0 rfl (lv_at hl 0 rfl) ?_
  refine r_getI F I hr_a0 hk_a0 fX2_18 rfl dX2_isWord_1 h (fun z8 h => ?_)
  refine lv_iconst (v := 1) F.1 F.2.1 dX2_isWord_4 (by decide) ?_
  refine r_icmp_ne (tgt := 24) F dX2_isWord_5 (by decide) h (fun h => ?_) (fun h => ?_)
  · exact hj_24 S _ _ _   h I (lv_sub hl [] rfl)
  · refine lv_aload_n F.1 F.2.1 dX2_isWord_8 rfl (lv_at hl 0 rfl) ?_
    refine r_getI F I hr_a0 hk_a0 fX2_25 rfl dX2_isWord_9 h (fun z9 h => ?_)
    refine lv_aload_n F.1 F.2.1 dX2_isWord_12 rfl (lv_at hl 0 rfl) ?_
    refine r_getI F I hr_a0 hk_a0 fX2_22 rfl dX2_isWord_13 h (fun z10 h => ?_)
    refine r_isub F dX2_isWord_16 h (fun z11 h => ?_)
    refine lv_aload_n F.1 F.2.1 dX2_isWord_17 rfl (lv_at hl 1 rfl) ?_
    refine g_I I (run_T (As := []) (rest := [.int z11]) F I hs_a1 kX2_89 (ctJ0_length_8abf5 hs_a1 h) ⟨rfl, rfl⟩ ⟨Nat.le_of_ble_eq_true rfl, Nat.le_of_ble_eq_true rfl⟩ rfl hl.1 rfl (Nat.le_of_ble_eq_true rfl) ⟨Nat.le_of_ble_eq_true rfl, Nat.le_of_ble_eq_true rfl⟩ dX2_isWord_18) (fun z12 S H locs I h => ?_)
    refine r_icmp_eq (tgt := 26) F dX2_isWord_21 (by decide) h (fun h => ?_) (fun h => ?_)
    · refine lv_iconst (v := 0) F.1 F.2.1 dX2_isWord_26 (by decide) ?_
      refine lv_istore_n (lv' := [(2, .int (0 : Int32)), (0, .ref (gz g + a0)), (1, .ref (gK g a1))]) F.1 F.2.1 dX2_isWord_27 rfl hl (by decide) rfl (fun ls hl => ?_)
      obtain ⟨n28, h⟩ := h
      exact hl_28 n28 S _ _ _ a0 a1 (0 : Int32) hr_a0 hk_a0 hs_a1 h I (lv_sub hl [1, 2, 0] rfl)
    · exact hj_24 S _ _ _   h I (lv_sub hl [] rfl)
theorem bdX2_keyHere_0 : ∀ q ∈ ([(0, .aload_n 0, 1), (1, .ldc 79, 2), (3, .invokevirtual 81, 3), (6, .ifCond .eq 5, 3), (9, .iconst 0, 1), (10, .ireturn, 1), (11, .aload_n 0, 1), (12, .ldc 85, 2), (14, .invokevirtual 81, 3), (17, .ifCond .eq 5, 3), (20, .iconst 1, 1), (21, .ireturn, 1), (22, .aload_n 0, 1), (23, .ldc 87, 2), (25, .invokevirtual 81, 3), (28, .ifCond .eq 7, 3), (31, .iconst 2, 1), (32, .goto 4, 3), (35, .iconst (-1), 1), (36, .ireturn, 1)] : List (Nat × Jvm.ClassFile.Instr × Nat)), decode cX2_keyHere q.1 = .ok q.2 := chk_ok _ 0 _ rfl (by decide +kernel)
theorem dX2_keyHere_0 : decode cX2_keyHere 0 = .ok (.aload_n 0, 1) := bdX2_keyHere_0 (0, .aload_n 0, 1) (List.mem_of_getElem? (i := 0) rfl)
theorem dX2_keyHere_1 : decode cX2_keyHere 1 = .ok (.ldc 79, 2) := bdX2_keyHere_0 (1, .ldc 79, 2) (List.mem_of_getElem? (i := 1) rfl)
theorem dX2_keyHere_3 : decode cX2_keyHere 3 = .ok (.invokevirtual 81, 3) := bdX2_keyHere_0 (3, .invokevirtual 81, 3) (List.mem_of_getElem? (i := 2) rfl)
theorem dX2_keyHere_6 : decode cX2_keyHere 6 = .ok (.ifCond .eq 5, 3) := bdX2_keyHere_0 (6, .ifCond .eq 5, 3) (List.mem_of_getElem? (i := 3) rfl)
theorem dX2_keyHere_9 : decode cX2_keyHere 9 = .ok (.iconst 0, 1) := bdX2_keyHere_0 (9, .iconst 0, 1) (List.mem_of_getElem? (i := 4) rfl)
theorem dX2_keyHere_10 : decode cX2_keyHere 10 = .ok (.ireturn, 1) := bdX2_keyHere_0 (10, .ireturn, 1) (List.mem_of_getElem? (i := 5) rfl)
theorem dX2_keyHere_11 : decode cX2_keyHere 11 = .ok (.aload_n 0, 1) := bdX2_keyHere_0 (11, .aload_n 0, 1) (List.mem_of_getElem? (i := 6) rfl)
theorem dX2_keyHere_12 : decode cX2_keyHere 12 = .ok (.ldc 85, 2) := bdX2_keyHere_0 (12, .ldc 85, 2) (List.mem_of_getElem? (i := 7) rfl)
theorem dX2_keyHere_14 : decode cX2_keyHere 14 = .ok (.invokevirtual 81, 3) := bdX2_keyHere_0 (14, .invokevirtual 81, 3) (List.mem_of_getElem? (i := 8) rfl)
theorem dX2_keyHere_17 : decode cX2_keyHere 17 = .ok (.ifCond .eq 5, 3) := bdX2_keyHere_0 (17, .ifCond .eq 5, 3) (List.mem_of_getElem? (i := 9) rfl)
theorem dX2_keyHere_20 : decode cX2_keyHere 20 = .ok (.iconst 1, 1) := bdX2_keyHere_0 (20, .iconst 1, 1) (List.mem_of_getElem? (i := 10) rfl)
theorem dX2_keyHere_21 : decode cX2_keyHere 21 = .ok (.ireturn, 1) := bdX2_keyHere_0 (21, .ireturn, 1) (List.mem_of_getElem? (i := 11) rfl)
theorem dX2_keyHere_22 : decode cX2_keyHere 22 = .ok (.aload_n 0, 1) := bdX2_keyHere_0 (22, .aload_n 0, 1) (List.mem_of_getElem? (i := 12) rfl)
theorem dX2_keyHere_23 : decode cX2_keyHere 23 = .ok (.ldc 87, 2) := bdX2_keyHere_0 (23, .ldc 87, 2) (List.mem_of_getElem? (i := 13) rfl)
theorem dX2_keyHere_25 : decode cX2_keyHere 25 = .ok (.invokevirtual 81, 3) := bdX2_keyHere_0 (25, .invokevirtual 81, 3) (List.mem_of_getElem? (i := 14) rfl)
theorem dX2_keyHere_28 : decode cX2_keyHere 28 = .ok (.ifCond .eq 7, 3) := bdX2_keyHere_0 (28, .ifCond .eq 7, 3) (List.mem_of_getElem? (i := 15) rfl)
theorem dX2_keyHere_31 : decode cX2_keyHere 31 = .ok (.iconst 2, 1) := bdX2_keyHere_0 (31, .iconst 2, 1) (List.mem_of_getElem? (i := 16) rfl)
theorem dX2_keyHere_32 : decode cX2_keyHere 32 = .ok (.goto 4, 3) := bdX2_keyHere_0 (32, .goto 4, 3) (List.mem_of_getElem? (i := 17) rfl)
theorem dX2_keyHere_35 : decode cX2_keyHere 35 = .ok (.iconst (-1), 1) := bdX2_keyHere_0 (35, .iconst (-1), 1) (List.mem_of_getElem? (i := 18) rfl)
theorem dX2_keyHere_36 : decode cX2_keyHere 36 = .ok (.ireturn, 1) := bdX2_keyHere_0 (36, .ireturn, 1) (List.mem_of_getElem? (i := 19) rfl)
theorem kX2_81 : mthV RX2 81 2 yX2_isWord prog_4_method_8_code 3 (Option.some Jvm.ClassFile.FieldType.boolean) 1 := ⟨⟨⟨tw_656, tw_63, tw_659⟩, rfl, by decide +kernel⟩, tw_658, tw_10, rfl⟩
def wpX2_keyHere (ln : Nat → Nat) (S : HC) (a0 : Nat) (post : Int32 → HC → Prop) : Prop := wpX2_isWord ln S a0 0 fun z1 S => if z1 = 0 then (wpX2_isWord ln S a0 1 fun z2 S => if z2 = 0 then (wpX2_isWord ln S a0 2 fun z3 S => if z3 = 0 then (post (-1 : Int32) S) else (post (2 : Int32) S)) else (post (1 : Int32) S)) else (post (0 : Int32) S)
abbrev rmX2_keyHere : Room := { frames := 5, cells := 0, slots := 0, locals := 107 }
set_option maxHeartbeats 4000000 in
set_option maxRecDepth 100000 in
theorem ctX2_keyHere {l : Launch} {g : GX} {N : Nat} {ln : Nat → Nat} {S : HC} {a0 : Nat} {post : Int32 → HC → Prop} (hr_a0 : a0 < N) (hk_a0 : kd a0 = 2) (h : wpX2_keyHere ln S a0 post) : Met l yX2_keyHere (Cond.code yX2_keyHere prog_4_method_7_code 1 (Option.some Jvm.ClassFile.FieldType.int) :: gtbl) rmX2_keyHere (va_Pc [.ref (gz g + a0)] (AtP g N ln S)) (QI g N ln post) 0 0 (gF g) := by
  refine m_of (by decide) (Nat.le_of_ble_eq_true rfl) ?_
  intro p e s m below meth c ls F hr I hl
  have hl : lv_has ls 1 [(0, .ref (gz g + a0))] := hl
  unfold wpX2_keyHere at h
  refine lv_aload_n F.1 F.2.1 dX2_keyHere_0 rfl (lv_at hl 0 rfl) ?_
  have hs_0 : (0 : Nat) < 6 := by decide
  refine va_ldcS F.1 F.2.1 F.2.2.2.1 (I.2.2.1.1.2.2 0 hs_0) dX2_keyHere_1 ?_
  refine g_I I (run_V (As := [.ref (gK g 0)]) (rest := []) F I hr_a0 hk_a0 (by decide) kX2_81 (ctX2_isWord hr_a0 hk_a0 hs_0 h) ⟨rfl, rfl⟩ ⟨Nat.le_of_ble_eq_true rfl, Nat.le_of_ble_eq_true rfl⟩ rfl hl.1 rfl (Nat.le_of_ble_eq_true rfl) ⟨Nat.le_of_ble_eq_true rfl, Nat.le_of_ble_eq_true rfl⟩ dX2_keyHere_3) (fun z1 S H locs I h => ?_)
  refine r_if_eq (tgt := 11) F dX2_keyHere_6 (by decide) h (fun h => ?_) (fun h => ?_)
  · refine lv_aload_n F.1 F.2.1 dX2_keyHere_11 rfl (lv_at hl 0 rfl) ?_
    have hs_1 : (1 : Nat) < 6 := by decide
    refine va_ldcS F.1 F.2.1 F.2.2.2.1 (I.2.2.1.1.2.2 1 hs_1) dX2_keyHere_12 ?_
    refine g_I I (run_V (As := [.ref (gK g 1)]) (rest := []) F I hr_a0 hk_a0 (by decide) kX2_81 (ctX2_isWord hr_a0 hk_a0 hs_1 h) ⟨rfl, rfl⟩ ⟨Nat.le_of_ble_eq_true rfl, Nat.le_of_ble_eq_true rfl⟩ rfl hl.1 rfl (Nat.le_of_ble_eq_true rfl) ⟨Nat.le_of_ble_eq_true rfl, Nat.le_of_ble_eq_true rfl⟩ dX2_keyHere_14) (fun z2 S H locs I h => ?_)
    refine r_if_eq (tgt := 22) F dX2_keyHere_17 (by decide) h (fun h => ?_) (fun h => ?_)
    · refine lv_aload_n F.1 F.2.1 dX2_keyHere_22 rfl (lv_at hl 0 rfl) ?_
      have hs_2 : (2 : Nat) < 6 := by decide
      refine va_ldcS F.1 F.2.1 F.2.2.2.1 (I.2.2.1.1.2.2 2 hs_2) dX2_keyHere_23 ?_
      refine g_I I (run_V (As := [.ref (gK g 2)]) (rest := []) F I hr_a0 hk_a0 (by decide) kX2_81 (ctX2_isWord hr_a0 hk_a0 hs_2 h) ⟨rfl, rfl⟩ ⟨Nat.le_of_ble_eq_true rfl, Nat.le_of_ble_eq_true rfl⟩ rfl hl.1 rfl (Nat.le_of_ble_eq_true rfl) ⟨Nat.le_of_ble_eq_true rfl, Nat.le_of_ble_eq_true rfl⟩ dX2_keyHere_25) (fun z3 S H locs I h => ?_)
      refine r_if_eq (tgt := 35) F dX2_keyHere_28 (by decide) h (fun h => ?_) (fun h => ?_)
      · refine lv_iconst (v := -1) F.1 F.2.1 dX2_keyHere_35 (by decide) ?_
        exact r_ireturn F I ⟨hr.1, hr.2.1, trivial⟩ h dX2_keyHere_36
      · refine lv_iconst (v := 2) F.1 F.2.1 dX2_keyHere_31 (by decide) ?_
        refine lv_goto (tgt := 36) F.1 F.2.1 dX2_keyHere_32 (by decide) ?_
        exact r_ireturn F I ⟨hr.1, hr.2.1, trivial⟩ h dX2_keyHere_36
    · refine lv_iconst (v := 1) F.1 F.2.1 dX2_keyHere_20 (by decide) ?_
      exact r_ireturn F I ⟨hr.1, hr.2.1, trivial⟩ h dX2_keyHere_21
  · refine lv_iconst (v := 0) F.1 F.2.1 dX2_keyHere_9 (by decide) ?_
    exact r_ireturn F I ⟨hr.1, hr.2.1, trivial⟩ h dX2_keyHere_10
abbrev rmR (d : Nat) : Room := { frames := d + 20, cells := 0, slots := 0, locals := d * 30 + 200 }
theorem bdX2_readLevel_0 : ∀ q ∈ ([(0, .iload_n 1, 1), (1, .iconst 5, 1), (2, .if_icmp .lt 8, 3), (5, .aload_n 0, 1), (6, .invokevirtual 97, 3), (9, .return_, 1), (10, .aload_n 0, 1), (11, .iload_n 1, 1), (12, .iconst 1, 1), (13, .iadd, 1), (14, .invokevirtual 60, 3), (17, .iload_n 1, 1), (18, .iconst 2, 1), (19, .if_icmp .ne 7, 3), (22, .iconst 1, 1), (23, .goto 5, 3), (26, .bipush 96, 2), (28, .istore_n 2, 1), (29, .iconst 0, 1), (30, .istore_n 3, 1), (31, .iload_n 3, 1), (32, .iload_n 2, 1), (33, .if_icmp .ge 58, 3), (36, .aload_n 0, 1), (37, .getfield 47, 3), (40, .ifCond .ge 51, 3), (43, .aload_n 0, 1), (44, .invokevirtual 100, 3), (47, .iload_n 1, 1), (48, .if_icmp .ne 43, 3), (51, .aload_n 0, 1), (52, .getfield 12, 3), (55, .aload_n 0, 1), (56, .getfield 22, 3), (59, .invokevirtual 72, 3), (62, .istore 4, 2), (64, .aload_n 0, 1), (65, .invokevirtual 50, 3), (68, .aload_n 0, 1), (69, .iload_n 1, 1)] : List (Nat × Jvm.ClassFile.Instr × Nat)), decode cX2_readLevel q.1 = .ok q.2 := chk_ok _ 0 _ rfl (by decide +kernel)
theorem dX2_readLevel_0 : decode cX2_readLevel 0 = .ok (.iload_n 1, 1) := bdX2_readLevel_0 (0, .iload_n 1, 1) (List.mem_of_getElem? (i := 0) rfl)
theorem dX2_readLevel_1 : decode cX2_readLevel 1 = .ok (.iconst 5, 1) := bdX2_readLevel_0 (1, .iconst 5, 1) (List.mem_of_getElem? (i := 1) rfl)
theorem dX2_readLevel_2 : decode cX2_readLevel 2 = .ok (.if_icmp .lt 8, 3) := bdX2_readLevel_0 (2, .if_icmp .lt 8, 3) (List.mem_of_getElem? (i := 2) rfl)
theorem dX2_readLevel_5 : decode cX2_readLevel 5 = .ok (.aload_n 0, 1) := bdX2_readLevel_0 (5, .aload_n 0, 1) (List.mem_of_getElem? (i := 3) rfl)
theorem dX2_readLevel_6 : decode cX2_readLevel 6 = .ok (.invokevirtual 97, 3) := bdX2_readLevel_0 (6, .invokevirtual 97, 3) (List.mem_of_getElem? (i := 4) rfl)
theorem dX2_readLevel_9 : decode cX2_readLevel 9 = .ok (.return_, 1) := bdX2_readLevel_0 (9, .return_, 1) (List.mem_of_getElem? (i := 5) rfl)
theorem dX2_readLevel_10 : decode cX2_readLevel 10 = .ok (.aload_n 0, 1) := bdX2_readLevel_0 (10, .aload_n 0, 1) (List.mem_of_getElem? (i := 6) rfl)
theorem dX2_readLevel_11 : decode cX2_readLevel 11 = .ok (.iload_n 1, 1) := bdX2_readLevel_0 (11, .iload_n 1, 1) (List.mem_of_getElem? (i := 7) rfl)
theorem dX2_readLevel_12 : decode cX2_readLevel 12 = .ok (.iconst 1, 1) := bdX2_readLevel_0 (12, .iconst 1, 1) (List.mem_of_getElem? (i := 8) rfl)
theorem dX2_readLevel_13 : decode cX2_readLevel 13 = .ok (.iadd, 1) := bdX2_readLevel_0 (13, .iadd, 1) (List.mem_of_getElem? (i := 9) rfl)
theorem dX2_readLevel_14 : decode cX2_readLevel 14 = .ok (.invokevirtual 60, 3) := bdX2_readLevel_0 (14, .invokevirtual 60, 3) (List.mem_of_getElem? (i := 10) rfl)
theorem dX2_readLevel_17 : decode cX2_readLevel 17 = .ok (.iload_n 1, 1) := bdX2_readLevel_0 (17, .iload_n 1, 1) (List.mem_of_getElem? (i := 11) rfl)
theorem dX2_readLevel_18 : decode cX2_readLevel 18 = .ok (.iconst 2, 1) := bdX2_readLevel_0 (18, .iconst 2, 1) (List.mem_of_getElem? (i := 12) rfl)
theorem dX2_readLevel_19 : decode cX2_readLevel 19 = .ok (.if_icmp .ne 7, 3) := bdX2_readLevel_0 (19, .if_icmp .ne 7, 3) (List.mem_of_getElem? (i := 13) rfl)
theorem dX2_readLevel_22 : decode cX2_readLevel 22 = .ok (.iconst 1, 1) := bdX2_readLevel_0 (22, .iconst 1, 1) (List.mem_of_getElem? (i := 14) rfl)
theorem dX2_readLevel_23 : decode cX2_readLevel 23 = .ok (.goto 5, 3) := bdX2_readLevel_0 (23, .goto 5, 3) (List.mem_of_getElem? (i := 15) rfl)
theorem dX2_readLevel_26 : decode cX2_readLevel 26 = .ok (.bipush 96, 2) := bdX2_readLevel_0 (26, .bipush 96, 2) (List.mem_of_getElem? (i := 16) rfl)
theorem dX2_readLevel_28 : decode cX2_readLevel 28 = .ok (.istore_n 2, 1) := bdX2_readLevel_0 (28, .istore_n 2, 1) (List.mem_of_getElem? (i := 17) rfl)
theorem dX2_readLevel_29 : decode cX2_readLevel 29 = .ok (.iconst 0, 1) := bdX2_readLevel_0 (29, .iconst 0, 1) (List.mem_of_getElem? (i := 18) rfl)
theorem dX2_readLevel_30 : decode cX2_readLevel 30 = .ok (.istore_n 3, 1) := bdX2_readLevel_0 (30, .istore_n 3, 1) (List.mem_of_getElem? (i := 19) rfl)
theorem dX2_readLevel_31 : decode cX2_readLevel 31 = .ok (.iload_n 3, 1) := bdX2_readLevel_0 (31, .iload_n 3, 1) (List.mem_of_getElem? (i := 20) rfl)
theorem dX2_readLevel_32 : decode cX2_readLevel 32 = .ok (.iload_n 2, 1) := bdX2_readLevel_0 (32, .iload_n 2, 1) (List.mem_of_getElem? (i := 21) rfl)
theorem dX2_readLevel_33 : decode cX2_readLevel 33 = .ok (.if_icmp .ge 58, 3) := bdX2_readLevel_0 (33, .if_icmp .ge 58, 3) (List.mem_of_getElem? (i := 22) rfl)
theorem dX2_readLevel_36 : decode cX2_readLevel 36 = .ok (.aload_n 0, 1) := bdX2_readLevel_0 (36, .aload_n 0, 1) (List.mem_of_getElem? (i := 23) rfl)
theorem dX2_readLevel_37 : decode cX2_readLevel 37 = .ok (.getfield 47, 3) := bdX2_readLevel_0 (37, .getfield 47, 3) (List.mem_of_getElem? (i := 24) rfl)
theorem dX2_readLevel_40 : decode cX2_readLevel 40 = .ok (.ifCond .ge 51, 3) := bdX2_readLevel_0 (40, .ifCond .ge 51, 3) (List.mem_of_getElem? (i := 25) rfl)
theorem dX2_readLevel_43 : decode cX2_readLevel 43 = .ok (.aload_n 0, 1) := bdX2_readLevel_0 (43, .aload_n 0, 1) (List.mem_of_getElem? (i := 26) rfl)
theorem dX2_readLevel_44 : decode cX2_readLevel 44 = .ok (.invokevirtual 100, 3) := bdX2_readLevel_0 (44, .invokevirtual 100, 3) (List.mem_of_getElem? (i := 27) rfl)
theorem dX2_readLevel_47 : decode cX2_readLevel 47 = .ok (.iload_n 1, 1) := bdX2_readLevel_0 (47, .iload_n 1, 1) (List.mem_of_getElem? (i := 28) rfl)
theorem dX2_readLevel_48 : decode cX2_readLevel 48 = .ok (.if_icmp .ne 43, 3) := bdX2_readLevel_0 (48, .if_icmp .ne 43, 3) (List.mem_of_getElem? (i := 29) rfl)
theorem dX2_readLevel_51 : decode cX2_readLevel 51 = .ok (.aload_n 0, 1) := bdX2_readLevel_0 (51, .aload_n 0, 1) (List.mem_of_getElem? (i := 30) rfl)
theorem dX2_readLevel_52 : decode cX2_readLevel 52 = .ok (.getfield 12, 3) := bdX2_readLevel_0 (52, .getfield 12, 3) (List.mem_of_getElem? (i := 31) rfl)
theorem dX2_readLevel_55 : decode cX2_readLevel 55 = .ok (.aload_n 0, 1) := bdX2_readLevel_0 (55, .aload_n 0, 1) (List.mem_of_getElem? (i := 32) rfl)
theorem dX2_readLevel_56 : decode cX2_readLevel 56 = .ok (.getfield 22, 3) := bdX2_readLevel_0 (56, .getfield 22, 3) (List.mem_of_getElem? (i := 33) rfl)
theorem dX2_readLevel_59 : decode cX2_readLevel 59 = .ok (.invokevirtual 72, 3) := bdX2_readLevel_0 (59, .invokevirtual 72, 3) (List.mem_of_getElem? (i := 34) rfl)
theorem dX2_readLevel_62 : decode cX2_readLevel 62 = .ok (.istore 4, 2) := bdX2_readLevel_0 (62, .istore 4, 2) (List.mem_of_getElem? (i := 35) rfl)
theorem dX2_readLevel_64 : decode cX2_readLevel 64 = .ok (.aload_n 0, 1) := bdX2_readLevel_0 (64, .aload_n 0, 1) (List.mem_of_getElem? (i := 36) rfl)
theorem dX2_readLevel_65 : decode cX2_readLevel 65 = .ok (.invokevirtual 50, 3) := bdX2_readLevel_0 (65, .invokevirtual 50, 3) (List.mem_of_getElem? (i := 37) rfl)
theorem dX2_readLevel_68 : decode cX2_readLevel 68 = .ok (.aload_n 0, 1) := bdX2_readLevel_0 (68, .aload_n 0, 1) (List.mem_of_getElem? (i := 38) rfl)
theorem dX2_readLevel_69 : decode cX2_readLevel 69 = .ok (.iload_n 1, 1) := bdX2_readLevel_0 (69, .iload_n 1, 1) (List.mem_of_getElem? (i := 39) rfl)
theorem bdX2_readLevel_70 : ∀ q ∈ ([(70, .iconst 1, 1), (71, .iadd, 1), (72, .invokevirtual 60, 3), (75, .aload_n 0, 1), (76, .sipush 20000, 3), (79, .iload 4, 2), (81, .iadd, 1), (82, .invokevirtual 103, 3), (85, .iinc 3 1, 3), (88, .goto (-57), 3), (91, .return_, 1)] : List (Nat × Jvm.ClassFile.Instr × Nat)), decode cX2_readLevel q.1 = .ok q.2 := chk_ok _ 70 _ rfl (by decide +kernel)
theorem dX2_readLevel_70 : decode cX2_readLevel 70 = .ok (.iconst 1, 1) := bdX2_readLevel_70 (70, .iconst 1, 1) (List.mem_of_getElem? (i := 0) rfl)
theorem dX2_readLevel_71 : decode cX2_readLevel 71 = .ok (.iadd, 1) := bdX2_readLevel_70 (71, .iadd, 1) (List.mem_of_getElem? (i := 1) rfl)
theorem dX2_readLevel_72 : decode cX2_readLevel 72 = .ok (.invokevirtual 60, 3) := bdX2_readLevel_70 (72, .invokevirtual 60, 3) (List.mem_of_getElem? (i := 2) rfl)
theorem dX2_readLevel_75 : decode cX2_readLevel 75 = .ok (.aload_n 0, 1) := bdX2_readLevel_70 (75, .aload_n 0, 1) (List.mem_of_getElem? (i := 3) rfl)
theorem dX2_readLevel_76 : decode cX2_readLevel 76 = .ok (.sipush 20000, 3) := bdX2_readLevel_70 (76, .sipush 20000, 3) (List.mem_of_getElem? (i := 4) rfl)
theorem dX2_readLevel_79 : decode cX2_readLevel 79 = .ok (.iload 4, 2) := bdX2_readLevel_70 (79, .iload 4, 2) (List.mem_of_getElem? (i := 5) rfl)
theorem dX2_readLevel_81 : decode cX2_readLevel 81 = .ok (.iadd, 1) := bdX2_readLevel_70 (81, .iadd, 1) (List.mem_of_getElem? (i := 6) rfl)
theorem dX2_readLevel_82 : decode cX2_readLevel 82 = .ok (.invokevirtual 103, 3) := bdX2_readLevel_70 (82, .invokevirtual 103, 3) (List.mem_of_getElem? (i := 7) rfl)
theorem dX2_readLevel_85 : decode cX2_readLevel 85 = .ok (.iinc 3 1, 3) := bdX2_readLevel_70 (85, .iinc 3 1, 3) (List.mem_of_getElem? (i := 8) rfl)
theorem dX2_readLevel_88 : decode cX2_readLevel 88 = .ok (.goto (-57), 3) := bdX2_readLevel_70 (88, .goto (-57), 3) (List.mem_of_getElem? (i := 9) rfl)
theorem dX2_readLevel_91 : decode cX2_readLevel 91 = .ok (.return_, 1) := bdX2_readLevel_70 (91, .return_, 1) (List.mem_of_getElem? (i := 10) rfl)
theorem kX2_100 : mthV RX2 100 2 yX2_levelHere prog_4_method_10_code 1 (Option.some Jvm.ClassFile.FieldType.int) 0 := ⟨⟨⟨tw_804, tw_63, tw_807⟩, rfl, by decide +kernel⟩, tw_806, tw_20, rfl⟩
theorem kX2_60 : mthV RX2 60 2 yX2_readLevel prog_4_method_11_code 5 (Option.none : Option Jvm.ClassFile.FieldType) 1 := ⟨⟨⟨tw_714, tw_63, tw_717⟩, rfl, by decide +kernel⟩, tw_716, tw_12, rfl⟩
theorem kX2_97 : mthV RX2 97 2 yX2_readPiece prog_4_method_12_code 1 (Option.none : Option Jvm.ClassFile.FieldType) 0 := ⟨⟨⟨tw_718, tw_63, tw_721⟩, rfl, by decide +kernel⟩, tw_720, tw_13, rfl⟩
def LX2_readLevel_31 (ln : Nat → Nat) (RL : HC → Nat → Int32 → (HC → Prop) → Prop) (RP : HC → Nat → (HC → Prop) → Prop) (post : HC → Prop) : Nat → HC → Nat → Int32 → Int32 → Int32 → Prop
  | 0 => fun _ _ _ _ _ => False
  | n31 + 1 => fun S x0 x1 x2 x3 => if x2 ≤ x3 then (post S) else (lt_ (hI S x0 10) fun z1 => if 0 ≤ z1 then (post S) else (wpX2_levelHere ln S x0 fun z2 S => if z2 = x1 then (dn_ (hR S x0 0) fun b3 => lt_ (hI S x0 2) fun z4 => wpX6_at ln S b3 z4 fun z5 S => wpX2_advance ln S x0 fun S => lt_ (x1 + (1 : Int32)) fun z6 => RL S x0 z6 fun S => lt_ ((20000 : Int32) + z5) fun z7 => wpX2_write ln S x0 z7 fun S => lt_ (x3 + (1 : Int32)) fun z8 => (LX2_readLevel_31 ln RL RP post n31) S x0 x1 x2 z8) else (post S)))
def BX2_readLevel_28 (ln : Nat → Nat) (RL : HC → Nat → Int32 → (HC → Prop) → Prop) (RP : HC → Nat → (HC → Prop) → Prop) (post : HC → Prop) (S : HC) (x0 : Nat) (x1 : Int32) (t0 : Int32) : Prop := ∃ n31, LX2_readLevel_31 ln RL RP post n31 S x0 x1 t0 (0 : Int32)
def bdX2_readLevel (ln : Nat → Nat) (RL : HC → Nat → Int32 → (HC → Prop) → Prop) (RP : HC → Nat → (HC → Prop) → Prop) (S : HC) (a0 : Nat) (a1 : Int32) (post : HC → Prop) : Prop := if a1 < (5 : Int32) then (lt_ (a1 + (1 : Int32)) fun z9 => RL S a0 z9 fun S => if a1 = (2 : Int32) then (BX2_readLevel_28 ln RL RP post S a0 a1 (1 : Int32)) else (BX2_readLevel_28 ln RL RP post S a0 a1 (96 : Int32))) else (RP S a0 fun S => post S)
set_option maxHeartbeats 4000000 in
set_option maxRecDepth 100000 in
theorem stX2_readLevel {l : Launch} {g : GX} {N : Nat} {ln : Nat → Nat} {d : Nat} {RL : HC → Nat → Int32 → (HC → Prop) → Prop} {RP : HC → Nat → (HC → Prop) → Prop} (ihRL : ∀ (S : HC) (a0 : Nat) (a1 : Int32) (post : HC → Prop), a0 < N → kd a0 = 2 → RL S a0 a1 post → Met l yX2_readLevel (Cond.code yX2_readLevel prog_4_method_11_code 5 (Option.none : Option Jvm.ClassFile.FieldType) :: gtbl) (rmR d) (va_Pc [.ref (gz g + a0), .int a1] (AtP g N ln S)) (QV g N ln post) 0 0 (gF g)) (ihRP : ∀ (S : HC) (a0 : Nat) (post : HC → Prop), a0 < N → kd a0 = 2 → RP S a0 post → Met l yX2_readPiece (Cond.code yX2_readPiece prog_4_method_12_code 1 (Option.none : Option Jvm.ClassFile.FieldType) :: gtbl) (rmR d) (va_Pc [.ref (gz g + a0)] (AtP g N ln S)) (QV g N ln post) 0 0 (gF g)) {S : HC} {a0 : Nat} {a1 : Int32} {post : HC → Prop} (hr_a0 : a0 < N) (hk_a0 : kd a0 = 2) (h : bdX2_readLevel ln RL RP S a0 a1 post) : Met l yX2_readLevel (Cond.code yX2_readLevel prog_4_method_11_code 5 (Option.none : Option Jvm.ClassFile.FieldType) :: gtbl) (rmR (d + 1)) (va_Pc [.ref (gz g + a0), .int a1] (AtP g N ln S)) (QV g N ln post) 0 0 (gF g) := by
  refine m_of (by decide) (Nat.le_of_ble_eq_true rfl) ?_
  intro p e s m below meth c ls F hr I hl
  have hl : lv_has ls 5 [(0, .ref (gz g + a0)), (1, .int a1)] := hl
  unfold bdX2_readLevel at h
  have hl_31 : ∀ n31 : Nat, ∀ (S : HC) (H : Heap) (locs : List Loc) (ls : Array Slot) (x0 : Nat) (x1 : Int32) (x2 : Int32) (x3 : Int32), x0 < N → kd x0 = 2 → LX2_readLevel_31 ln RL RP post n31 S x0 x1 x2 x3 → Inv g N ln S s H locs → lv_has ls 5 [(0, .ref (gz g + x0)), (1, .int x1), (2, .int x2), (3, .int x3)] → W p l e (rmR (d + 1)) s m ([.ref (gz g + a0), .int a1] : List Value).toArray below meth c H locs 0 0 (MQ below (QV g N ln post) ([.ref (gz g + a0), .int a1] : List Value).toArray s 0 0 (gF g)) (F0 m 31 ls []) := by
    intro n31
    induction n31 with
    | zero =>
      intro S H locs ls x0 x1 x2 x3 hr_x0 hk_x0 h I hl
      exact h.elim
    | succ n31 ih =>
      have hk31 := ih
      intro S H locs ls x0 x1 x2 x3 hr_x0 hk_x0 h I hl
      rw [LX2_readLevel_31] at h
      refine lv_iload_n F.1 F.2.1 dX2_readLevel_31 rfl (lv_at hl 3 rfl) ?_
      refine lv_iload_n F.1 F.2.1 dX2_readLevel_32 rfl (lv_at hl 2 rfl) ?_
      refine r_icmp_ge (tgt := 91) F dX2_readLevel_33 (by decide) h (fun h => ?_) (fun h => ?_)
      · exact r_vreturn F I ⟨hr.1, hr.2.1, trivial⟩ h dX2_readLevel_91
      · refine lv_aload_n F.1 F.2.1 dX2_readLevel_36 rfl (lv_at hl 0 rfl) ?_
        refine r_getI F I hr_x0 hk_x0 fX2_47 rfl dX2_readLevel_37 h (fun z1 h => ?_)
        refine r_if_ge (tgt := 91) F dX2_readLevel_40 (by decide) h (fun h => ?_) (fun h => ?_)
        · exact r_vreturn F I ⟨hr.1, hr.2.1, trivial⟩ h dX2_readLevel_91
        · refine lv_aload_n F.1 F.2.1 dX2_readLevel_43 rfl (lv_at hl 0 rfl) ?_
          refine g_I I (run_V (As := []) (rest := []) F I hr_x0 hk_x0 (by decide) kX2_100 (ctX2_levelHere hr_x0 hk_x0 h) ⟨rfl, rfl⟩ ⟨(by show 1 + 1 ≤ d + 1 + 20; omega), (by show 8 + (1 + 11) + 21 ≤ (d + 1) * 30 + 200; omega)⟩ rfl hl.1 rfl (Nat.le_of_ble_eq_true rfl) ⟨Nat.zero_le _, Nat.zero_le _⟩ dX2_readLevel_44) (fun z2 S H locs I h => ?_)
          refine lv_iload_n F.1 F.2.1 dX2_readLevel_47 rfl (lv_at hl 1 rfl) ?_
          refine r_icmp_ne (tgt := 91) F dX2_readLevel_48 (by decide) h (fun h => ?_) (fun h => ?_)
          · exact r_vreturn F I ⟨hr.1, hr.2.1, trivial⟩ h dX2_readLevel_91
          · refine lv_aload_n F.1 F.2.1 dX2_readLevel_51 rfl (lv_at hl 0 rfl) ?_
            refine r_getN F I hr_x0 hk_x0 fX2_12 (f := 6) rfl (by decide) dX2_readLevel_52 h (fun b3 hr_b3 hk_b3 h => ?_)
            refine lv_aload_n F.1 F.2.1 dX2_readLevel_55 rfl (lv_at hl 0 rfl) ?_
            refine r_getI F I hr_x0 hk_x0 fX2_22 rfl dX2_readLevel_56 h (fun z4 h => ?_)
            refine g_I I (run_V (As := [.int z4]) (rest := []) F I hr_b3 hk_b3 (by decide) kX2_72 (ctX6_at hr_b3 hk_b3 h) ⟨rfl, rfl⟩ ⟨(by show 0 + 1 ≤ d + 1 + 20; omega), (by show 8 + (2 + 11) + 0 ≤ (d + 1) * 30 + 200; omega)⟩ rfl hl.1 rfl (Nat.le_of_ble_eq_true rfl) ⟨Nat.zero_le _, Nat.zero_le _⟩ dX2_readLevel_59) (fun z5 S H locs I h => ?_)
            refine lv_istore (lv' := [(4, .int z5), (0, .ref (gz g + x0)), (1, .int x1), (2, .int x2), (3, .int x3)]) F.1 F.2.1 dX2_readLevel_62 hl (by decide) rfl (fun ls hl => ?_)
            refine lv_aload_n F.1 F.2.1 dX2_readLevel_64 rfl (lv_at hl 1 rfl) ?_
            refine g_V I (run_V (As := []) (rest := []) F I hr_x0 hk_x0 (by decide) kX2_50 (ctX2_advance hr_x0 hk_x0 h) ⟨rfl, rfl⟩ ⟨(by show 1 + 1 ≤ d + 1 + 20; omega), (by show 8 + (3 + 11) + 21 ≤ (d + 1) * 30 + 200; omega)⟩ rfl hl.1 rfl (Nat.le_of_ble_eq_true rfl) ⟨Nat.zero_le _, Nat.zero_le _⟩ dX2_readLevel_65) (fun S H locs I h => ?_)
            refine lv_aload_n F.1 F.2.1 dX2_readLevel_68 rfl (lv_at hl 1 rfl) ?_
            refine lv_iload_n F.1 F.2.1 dX2_readLevel_69 rfl (lv_at hl 2 rfl) ?_
            refine lv_iconst (v := 1) F.1 F.2.1 dX2_readLevel_70 (by decide) ?_
            refine r_iadd F dX2_readLevel_71 h (fun z6 h => ?_)
            refine g_V I (run_V (As := [.int z6]) (rest := []) F I hr_x0 hk_x0 (by decide) kX2_60 (ihRL S x0 z6 _ hr_x0 hk_x0 h) ⟨rfl, rfl⟩ ⟨(by show d + 20 + 1 ≤ d + 1 + 20; omega), (by show 8 + (5 + 11) + (d * 30 + 200) ≤ (d + 1) * 30 + 200; omega)⟩ rfl hl.1 rfl (Nat.le_of_ble_eq_true rfl) ⟨Nat.zero_le _, Nat.zero_le _⟩ dX2_readLevel_72) (fun S H locs I h => ?_)
            refine lv_aload_n F.1 F.2.1 dX2_readLevel_75 rfl (lv_at hl 1 rfl) ?_
            refine lv_sipush (v := 20000) F.1 F.2.1 dX2_readLevel_76 (by decide) ?_
            refine lv_iload F.1 F.2.1 dX2_readLevel_79 (lv_at hl 0 rfl) ?_
            refine r_iadd F dX2_readLevel_81 h (fun z7 h => ?_)
            refine g_V I (run_V (As := [.int z7]) (rest := []) F I hr_x0 hk_x0 (by decide) kX2_103 (ctX2_write hr_x0 hk_x0 h) ⟨rfl, rfl⟩ ⟨(by show 0 + 1 ≤ d + 1 + 20; omega), (by show 8 + (2 + 11) + 0 ≤ (d + 1) * 30 + 200; omega)⟩ rfl hl.1 rfl (Nat.le_of_ble_eq_true rfl) ⟨Nat.zero_le _, Nat.zero_le _⟩ dX2_readLevel_82) (fun S H locs I h => ?_)
            obtain ⟨z8, e_z8, h⟩ := lt_x h
            refine lv_iinc (v := z8) (lv' := [(3, .int z8), (4, .int z5), (0, .ref (gz g + x0)), (1, .int x1), (2, .int x2)]) F.1 F.2.1 dX2_readLevel_85 hl (k := 4) rfl (by rw [e_z8]; rfl) (by decide) rfl (fun ls hl => ?_)
            refine lv_goto (tgt := 31) F.1 F.2.1 dX2_readLevel_88 (by decide) ?_
            exact hk31 S _ _ _ x0 x1 x2 z8 hr_x0 hk_x0 h I (lv_sub hl [2, 3, 4, 0] rfl)
  have hj_28 : ∀ (S : HC) (H : Heap) (locs : List Loc) (ls : Array Slot) (x0 : Nat) (x1 : Int32) (t0 : Int32), x0 < N → kd x0 = 2 → BX2_readLevel_28 ln RL RP post S x0 x1 t0 → Inv g N ln S s H locs → lv_has ls 5 [(0, .ref (gz g + x0)), (1, .int x1)] → W p l e (rmR (d + 1)) s m ([.ref (gz g + a0), .int a1] : List Value).toArray below meth c H locs 0 0 (MQ below (QV g N ln post) ([.ref (gz g + a0), .int a1] : List Value).toArray s 0 0 (gF g)) (F0 m 28 ls [.int t0]) := by
    intro S H locs ls x0 x1 t0 hr_x0 hk_x0 h I hl
    unfold BX2_readLevel_28 at h
    refine lv_istore_n (lv' := [(2, .int t0), (0, .ref (gz g + x0)), (1, .int x1)]) F.1 F.2.1 dX2_readLevel_28 rfl hl (by decide) rfl (fun ls hl => ?_)
    refine lv_iconst (v := 0) F.1 F.2.1 dX2_readLevel_29 (by decide) ?_
    refine lv_istore_n (lv' := [(3, .int (0 : Int32)), (2, .int t0), (0, .ref (gz g + x0)), (1, .int x1)]) F.1 F.2.1 dX2_readLevel_30 rfl hl (by decide) rfl (fun ls hl => ?_)
    obtain ⟨n31, h⟩ := h
    exact hl_31 n31 S _ _ _ x0 x1 t0 (0 : Int32) hr_x0 hk_x0 h I (lv_sub hl [2, 3, 1, 0] rfl)
  refine lv_iload_n F.1 F.2.1 dX2_readLevel_0 rfl (lv_at hl 1 rfl) ?_
  refine lv_iconst (v := 5) F.1 F.2.1 dX2_readLevel_1 (by decide) ?_
  refine r_icmp_lt (tgt := 10) F dX2_readLevel_2 (by decide) h (fun h => ?_) (fun h => ?_)
  · refine lv_aload_n F.1 F.2.1 dX2_readLevel_10 rfl (lv_at hl 0 rfl) ?_
    refine lv_iload_n F.1 F.2.1 dX2_readLevel_11 rfl (lv_at hl 1 rfl) ?_
    refine lv_iconst (v := 1) F.1 F.2.1 dX2_readLevel_12 (by decide) ?_
    refine r_iadd F dX2_readLevel_13 h (fun z9 h => ?_)
    refine g_V I (run_V (As := [.int z9]) (rest := []) F I hr_a0 hk_a0 (by decide) kX2_60 (ihRL S a0 z9 _ hr_a0 hk_a0 h) ⟨rfl, rfl⟩ ⟨(by show d + 20 + 1 ≤ d + 1 + 20; omega), (by show 8 + (5 + 11) + (d * 30 + 200) ≤ (d + 1) * 30 + 200; omega)⟩ rfl hl.1 rfl (Nat.le_of_ble_eq_true rfl) ⟨Nat.zero_le _, Nat.zero_le _⟩ dX2_readLevel_14) (fun S H locs I h => ?_)
    refine lv_iload_n F.1 F.2.1 dX2_readLevel_17 rfl (lv_at hl 1 rfl) ?_
    refine lv_iconst (v := 2) F.1 F.2.1 dX2_readLevel_18 (by decide) ?_
    refine r_icmp_ne (tgt := 26) F dX2_readLevel_19 (by decide) h (fun h => ?_) (fun h => ?_)
    · refine lv_bipush (v := 96) F.1 F.2.1 dX2_readLevel_26 (by decide) ?_
      exact hj_28 S _ _ _ a0 a1 (96 : Int32) hr_a0 hk_a0 h I (lv_sub hl [0, 1] rfl)
    · refine lv_iconst (v := 1) F.1 F.2.1 dX2_readLevel_22 (by decide) ?_
      refine lv_goto (tgt := 28) F.1 F.2.1 dX2_readLevel_23 (by decide) ?_
      exact hj_28 S _ _ _ a0 a1 (1 : Int32) hr_a0 hk_a0 h I (lv_sub hl [0, 1] rfl)
  · refine lv_aload_n F.1 F.2.1 dX2_readLevel_5 rfl (lv_at hl 0 rfl) ?_
    refine g_V I (run_V (As := []) (rest := []) F I hr_a0 hk_a0 (by decide) kX2_97 (ihRP S a0 _ hr_a0 hk_a0 h) ⟨rfl, rfl⟩ ⟨(by show d + 20 + 1 ≤ d + 1 + 20; omega), (by show 8 + (1 + 11) + (d * 30 + 200) ≤ (d + 1) * 30 + 200; omega)⟩ rfl hl.1 rfl (Nat.le_of_ble_eq_true rfl) ⟨Nat.zero_le _, Nat.zero_le _⟩ dX2_readLevel_6) (fun S H locs I h => ?_)
    exact r_vreturn F I ⟨hr.1, hr.2.1, trivial⟩ h dX2_readLevel_9
theorem bdX2_readPiece_0 : ∀ q ∈ ([(0, .aload_n 0, 1), (1, .getfield 47, 3), (4, .ifCond .lt 4, 3), (7, .return_, 1), (8, .aload_n 0, 1), (9, .bipush 33, 2), (11, .invokevirtual 106, 3), (14, .ifCond .eq 50, 3), (17, .aload_n 0, 1), (18, .getfield 44, 3), (21, .bipush 8, 2), (23, .if_icmp .ge 41, 3), (26, .aload_n 0, 1), (27, .dup, 1), (28, .getfield 44, 3), (31, .iconst 1, 1), (32, .iadd, 1), (33, .putfield 44, 3), (36, .aload_n 0, 1), (37, .invokevirtual 50, 3), (40, .aload_n 0, 1), (41, .invokevirtual 97, 3), (44, .aload_n 0, 1), (45, .dup, 1), (46, .getfield 44, 3), (49, .iconst 1, 1), (50, .isub, 1), (51, .putfield 44, 3), (54, .aload_n 0, 1), (55, .sipush 20033, 3), (58, .invokevirtual 103, 3), (61, .goto 61, 3), (64, .aload_n 0, 1), (65, .bipush 40, 2), (67, .invokevirtual 106, 3), (70, .ifCond .eq 48, 3), (73, .aload_n 0, 1), (74, .getfield 41, 3), (77, .bipush 8, 2), (79, .if_icmp .ge 39, 3)] : List (Nat × Jvm.ClassFile.Instr × Nat)), decode cX2_readPiece q.1 = .ok q.2 := chk_ok _ 0 _ rfl (by decide +kernel)
theorem dX2_readPiece_0 : decode cX2_readPiece 0 = .ok (.aload_n 0, 1) := bdX2_readPiece_0 (0, .aload_n 0, 1) (List.mem_of_getElem? (i := 0) rfl)
theorem dX2_readPiece_1 : decode cX2_readPiece 1 = .ok (.getfield 47, 3) := bdX2_readPiece_0 (1, .getfield 47, 3) (List.mem_of_getElem? (i := 1) rfl)
theorem dX2_readPiece_4 : decode cX2_readPiece 4 = .ok (.ifCond .lt 4, 3) := bdX2_readPiece_0 (4, .ifCond .lt 4, 3) (List.mem_of_getElem? (i := 2) rfl)
theorem dX2_readPiece_7 : decode cX2_readPiece 7 = .ok (.return_, 1) := bdX2_readPiece_0 (7, .return_, 1) (List.mem_of_getElem? (i := 3) rfl)
theorem dX2_readPiece_8 : decode cX2_readPiece 8 = .ok (.aload_n 0, 1) := bdX2_readPiece_0 (8, .aload_n 0, 1) (List.mem_of_getElem? (i := 4) rfl)
theorem dX2_readPiece_9 : decode cX2_readPiece 9 = .ok (.bipush 33, 2) := bdX2_readPiece_0 (9, .bipush 33, 2) (List.mem_of_getElem? (i := 5) rfl)
theorem dX2_readPiece_11 : decode cX2_readPiece 11 = .ok (.invokevirtual 106, 3) := bdX2_readPiece_0 (11, .invokevirtual 106, 3) (List.mem_of_getElem? (i := 6) rfl)
theorem dX2_readPiece_14 : decode cX2_readPiece 14 = .ok (.ifCond .eq 50, 3) := bdX2_readPiece_0 (14, .ifCond .eq 50, 3) (List.mem_of_getElem? (i := 7) rfl)
theorem dX2_readPiece_17 : decode cX2_readPiece 17 = .ok (.aload_n 0, 1) := bdX2_readPiece_0 (17, .aload_n 0, 1) (List.mem_of_getElem? (i := 8) rfl)
theorem dX2_readPiece_18 : decode cX2_readPiece 18 = .ok (.getfield 44, 3) := bdX2_readPiece_0 (18, .getfield 44, 3) (List.mem_of_getElem? (i := 9) rfl)
theorem dX2_readPiece_21 : decode cX2_readPiece 21 = .ok (.bipush 8, 2) := bdX2_readPiece_0 (21, .bipush 8, 2) (List.mem_of_getElem? (i := 10) rfl)
theorem dX2_readPiece_23 : decode cX2_readPiece 23 = .ok (.if_icmp .ge 41, 3) := bdX2_readPiece_0 (23, .if_icmp .ge 41, 3) (List.mem_of_getElem? (i := 11) rfl)
theorem dX2_readPiece_26 : decode cX2_readPiece 26 = .ok (.aload_n 0, 1) := bdX2_readPiece_0 (26, .aload_n 0, 1) (List.mem_of_getElem? (i := 12) rfl)
theorem dX2_readPiece_27 : decode cX2_readPiece 27 = .ok (.dup, 1) := bdX2_readPiece_0 (27, .dup, 1) (List.mem_of_getElem? (i := 13) rfl)
theorem dX2_readPiece_28 : decode cX2_readPiece 28 = .ok (.getfield 44, 3) := bdX2_readPiece_0 (28, .getfield 44, 3) (List.mem_of_getElem? (i := 14) rfl)
theorem dX2_readPiece_31 : decode cX2_readPiece 31 = .ok (.iconst 1, 1) := bdX2_readPiece_0 (31, .iconst 1, 1) (List.mem_of_getElem? (i := 15) rfl)
theorem dX2_readPiece_32 : decode cX2_readPiece 32 = .ok (.iadd, 1) := bdX2_readPiece_0 (32, .iadd, 1) (List.mem_of_getElem? (i := 16) rfl)
theorem dX2_readPiece_33 : decode cX2_readPiece 33 = .ok (.putfield 44, 3) := bdX2_readPiece_0 (33, .putfield 44, 3) (List.mem_of_getElem? (i := 17) rfl)
theorem dX2_readPiece_36 : decode cX2_readPiece 36 = .ok (.aload_n 0, 1) := bdX2_readPiece_0 (36, .aload_n 0, 1) (List.mem_of_getElem? (i := 18) rfl)
theorem dX2_readPiece_37 : decode cX2_readPiece 37 = .ok (.invokevirtual 50, 3) := bdX2_readPiece_0 (37, .invokevirtual 50, 3) (List.mem_of_getElem? (i := 19) rfl)
theorem dX2_readPiece_40 : decode cX2_readPiece 40 = .ok (.aload_n 0, 1) := bdX2_readPiece_0 (40, .aload_n 0, 1) (List.mem_of_getElem? (i := 20) rfl)
theorem dX2_readPiece_41 : decode cX2_readPiece 41 = .ok (.invokevirtual 97, 3) := bdX2_readPiece_0 (41, .invokevirtual 97, 3) (List.mem_of_getElem? (i := 21) rfl)
theorem dX2_readPiece_44 : decode cX2_readPiece 44 = .ok (.aload_n 0, 1) := bdX2_readPiece_0 (44, .aload_n 0, 1) (List.mem_of_getElem? (i := 22) rfl)
theorem dX2_readPiece_45 : decode cX2_readPiece 45 = .ok (.dup, 1) := bdX2_readPiece_0 (45, .dup, 1) (List.mem_of_getElem? (i := 23) rfl)
theorem dX2_readPiece_46 : decode cX2_readPiece 46 = .ok (.getfield 44, 3) := bdX2_readPiece_0 (46, .getfield 44, 3) (List.mem_of_getElem? (i := 24) rfl)
theorem dX2_readPiece_49 : decode cX2_readPiece 49 = .ok (.iconst 1, 1) := bdX2_readPiece_0 (49, .iconst 1, 1) (List.mem_of_getElem? (i := 25) rfl)
theorem dX2_readPiece_50 : decode cX2_readPiece 50 = .ok (.isub, 1) := bdX2_readPiece_0 (50, .isub, 1) (List.mem_of_getElem? (i := 26) rfl)
theorem dX2_readPiece_51 : decode cX2_readPiece 51 = .ok (.putfield 44, 3) := bdX2_readPiece_0 (51, .putfield 44, 3) (List.mem_of_getElem? (i := 27) rfl)
theorem dX2_readPiece_54 : decode cX2_readPiece 54 = .ok (.aload_n 0, 1) := bdX2_readPiece_0 (54, .aload_n 0, 1) (List.mem_of_getElem? (i := 28) rfl)
theorem dX2_readPiece_55 : decode cX2_readPiece 55 = .ok (.sipush 20033, 3) := bdX2_readPiece_0 (55, .sipush 20033, 3) (List.mem_of_getElem? (i := 29) rfl)
theorem dX2_readPiece_58 : decode cX2_readPiece 58 = .ok (.invokevirtual 103, 3) := bdX2_readPiece_0 (58, .invokevirtual 103, 3) (List.mem_of_getElem? (i := 30) rfl)
theorem dX2_readPiece_61 : decode cX2_readPiece 61 = .ok (.goto 61, 3) := bdX2_readPiece_0 (61, .goto 61, 3) (List.mem_of_getElem? (i := 31) rfl)
theorem dX2_readPiece_64 : decode cX2_readPiece 64 = .ok (.aload_n 0, 1) := bdX2_readPiece_0 (64, .aload_n 0, 1) (List.mem_of_getElem? (i := 32) rfl)
theorem dX2_readPiece_65 : decode cX2_readPiece 65 = .ok (.bipush 40, 2) := bdX2_readPiece_0 (65, .bipush 40, 2) (List.mem_of_getElem? (i := 33) rfl)
theorem dX2_readPiece_67 : decode cX2_readPiece 67 = .ok (.invokevirtual 106, 3) := bdX2_readPiece_0 (67, .invokevirtual 106, 3) (List.mem_of_getElem? (i := 34) rfl)
theorem dX2_readPiece_70 : decode cX2_readPiece 70 = .ok (.ifCond .eq 48, 3) := bdX2_readPiece_0 (70, .ifCond .eq 48, 3) (List.mem_of_getElem? (i := 35) rfl)
theorem dX2_readPiece_73 : decode cX2_readPiece 73 = .ok (.aload_n 0, 1) := bdX2_readPiece_0 (73, .aload_n 0, 1) (List.mem_of_getElem? (i := 36) rfl)
theorem dX2_readPiece_74 : decode cX2_readPiece 74 = .ok (.getfield 41, 3) := bdX2_readPiece_0 (74, .getfield 41, 3) (List.mem_of_getElem? (i := 37) rfl)
theorem dX2_readPiece_77 : decode cX2_readPiece 77 = .ok (.bipush 8, 2) := bdX2_readPiece_0 (77, .bipush 8, 2) (List.mem_of_getElem? (i := 38) rfl)
theorem dX2_readPiece_79 : decode cX2_readPiece 79 = .ok (.if_icmp .ge 39, 3) := bdX2_readPiece_0 (79, .if_icmp .ge 39, 3) (List.mem_of_getElem? (i := 39) rfl)
theorem bdX2_readPiece_82 : ∀ q ∈ ([(82, .aload_n 0, 1), (83, .dup, 1), (84, .getfield 41, 3), (87, .iconst 1, 1), (88, .iadd, 1), (89, .putfield 41, 3), (92, .aload_n 0, 1), (93, .invokevirtual 50, 3), (96, .aload_n 0, 1), (97, .iconst 0, 1), (98, .invokevirtual 60, 3), (101, .aload_n 0, 1), (102, .dup, 1), (103, .getfield 41, 3), (106, .iconst 1, 1), (107, .isub, 1), (108, .putfield 41, 3), (111, .aload_n 0, 1), (112, .invokevirtual 110, 3), (115, .goto 7, 3), (118, .aload_n 0, 1), (119, .invokevirtual 113, 3), (122, .return_, 1)] : List (Nat × Jvm.ClassFile.Instr × Nat)), decode cX2_readPiece q.1 = .ok q.2 := chk_ok _ 82 _ rfl (by decide +kernel)
theorem dX2_readPiece_82 : decode cX2_readPiece 82 = .ok (.aload_n 0, 1) := bdX2_readPiece_82 (82, .aload_n 0, 1) (List.mem_of_getElem? (i := 0) rfl)
theorem dX2_readPiece_83 : decode cX2_readPiece 83 = .ok (.dup, 1) := bdX2_readPiece_82 (83, .dup, 1) (List.mem_of_getElem? (i := 1) rfl)
theorem dX2_readPiece_84 : decode cX2_readPiece 84 = .ok (.getfield 41, 3) := bdX2_readPiece_82 (84, .getfield 41, 3) (List.mem_of_getElem? (i := 2) rfl)
theorem dX2_readPiece_87 : decode cX2_readPiece 87 = .ok (.iconst 1, 1) := bdX2_readPiece_82 (87, .iconst 1, 1) (List.mem_of_getElem? (i := 3) rfl)
theorem dX2_readPiece_88 : decode cX2_readPiece 88 = .ok (.iadd, 1) := bdX2_readPiece_82 (88, .iadd, 1) (List.mem_of_getElem? (i := 4) rfl)
theorem dX2_readPiece_89 : decode cX2_readPiece 89 = .ok (.putfield 41, 3) := bdX2_readPiece_82 (89, .putfield 41, 3) (List.mem_of_getElem? (i := 5) rfl)
theorem dX2_readPiece_92 : decode cX2_readPiece 92 = .ok (.aload_n 0, 1) := bdX2_readPiece_82 (92, .aload_n 0, 1) (List.mem_of_getElem? (i := 6) rfl)
theorem dX2_readPiece_93 : decode cX2_readPiece 93 = .ok (.invokevirtual 50, 3) := bdX2_readPiece_82 (93, .invokevirtual 50, 3) (List.mem_of_getElem? (i := 7) rfl)
theorem dX2_readPiece_96 : decode cX2_readPiece 96 = .ok (.aload_n 0, 1) := bdX2_readPiece_82 (96, .aload_n 0, 1) (List.mem_of_getElem? (i := 8) rfl)
theorem dX2_readPiece_97 : decode cX2_readPiece 97 = .ok (.iconst 0, 1) := bdX2_readPiece_82 (97, .iconst 0, 1) (List.mem_of_getElem? (i := 9) rfl)
theorem dX2_readPiece_98 : decode cX2_readPiece 98 = .ok (.invokevirtual 60, 3) := bdX2_readPiece_82 (98, .invokevirtual 60, 3) (List.mem_of_getElem? (i := 10) rfl)
theorem dX2_readPiece_101 : decode cX2_readPiece 101 = .ok (.aload_n 0, 1) := bdX2_readPiece_82 (101, .aload_n 0, 1) (List.mem_of_getElem? (i := 11) rfl)
theorem dX2_readPiece_102 : decode cX2_readPiece 102 = .ok (.dup, 1) := bdX2_readPiece_82 (102, .dup, 1) (List.mem_of_getElem? (i := 12) rfl)
theorem dX2_readPiece_103 : decode cX2_readPiece 103 = .ok (.getfield 41, 3) := bdX2_readPiece_82 (103, .getfield 41, 3) (List.mem_of_getElem? (i := 13) rfl)
theorem dX2_readPiece_106 : decode cX2_readPiece 106 = .ok (.iconst 1, 1) := bdX2_readPiece_82 (106, .iconst 1, 1) (List.mem_of_getElem? (i := 14) rfl)
theorem dX2_readPiece_107 : decode cX2_readPiece 107 = .ok (.isub, 1) := bdX2_readPiece_82 (107, .isub, 1) (List.mem_of_getElem? (i := 15) rfl)
theorem dX2_readPiece_108 : decode cX2_readPiece 108 = .ok (.putfield 41, 3) := bdX2_readPiece_82 (108, .putfield 41, 3) (List.mem_of_getElem? (i := 16) rfl)
theorem dX2_readPiece_111 : decode cX2_readPiece 111 = .ok (.aload_n 0, 1) := bdX2_readPiece_82 (111, .aload_n 0, 1) (List.mem_of_getElem? (i := 17) rfl)
theorem dX2_readPiece_112 : decode cX2_readPiece 112 = .ok (.invokevirtual 110, 3) := bdX2_readPiece_82 (112, .invokevirtual 110, 3) (List.mem_of_getElem? (i := 18) rfl)
theorem dX2_readPiece_115 : decode cX2_readPiece 115 = .ok (.goto 7, 3) := bdX2_readPiece_82 (115, .goto 7, 3) (List.mem_of_getElem? (i := 19) rfl)
theorem dX2_readPiece_118 : decode cX2_readPiece 118 = .ok (.aload_n 0, 1) := bdX2_readPiece_82 (118, .aload_n 0, 1) (List.mem_of_getElem? (i := 20) rfl)
theorem dX2_readPiece_119 : decode cX2_readPiece 119 = .ok (.invokevirtual 113, 3) := bdX2_readPiece_82 (119, .invokevirtual 113, 3) (List.mem_of_getElem? (i := 21) rfl)
theorem dX2_readPiece_122 : decode cX2_readPiece 122 = .ok (.return_, 1) := bdX2_readPiece_82 (122, .return_, 1) (List.mem_of_getElem? (i := 22) rfl)
theorem kX2_113 : mthV RX2 113 2 yX2_readLeaf prog_4_method_14_code 2 (Option.none : Option Jvm.ClassFile.FieldType) 0 := ⟨⟨⟨tw_734, tw_63, tw_737⟩, rfl, by decide +kernel⟩, tw_736, tw_17, rfl⟩
theorem kX2_110 : mthV RX2 110 2 yX2_readClosing prog_4_method_13_code 1 (Option.none : Option Jvm.ClassFile.FieldType) 0 := ⟨⟨⟨tw_730, tw_63, tw_733⟩, rfl, by decide +kernel⟩, tw_732, tw_16, rfl⟩
def BX2_readPiece_118 (ln : Nat → Nat) (RL : HC → Nat → Int32 → (HC → Prop) → Prop) (RP : HC → Nat → (HC → Prop) → Prop) (post : HC → Prop) (S : HC) (x0 : Nat) : Prop := wpX2_readLeaf ln S x0 fun S => post S
def BX2_readPiece_64 (ln : Nat → Nat) (RL : HC → Nat → Int32 → (HC → Prop) → Prop) (RP : HC → Nat → (HC → Prop) → Prop) (post : HC → Prop) (S : HC) (x0 : Nat) : Prop := wpX2_isSign ln S x0 (40 : Int32) fun z1 S => if z1 = 0 then (BX2_readPiece_118 ln RL RP post S x0) else (lt_ (hI S x0 8) fun z2 => if (8 : Int32) ≤ z2 then (BX2_readPiece_118 ln RL RP post S x0) else (lt_ (hI S x0 8) fun z3 => lt_ (z3 + (1 : Int32)) fun z4 => lt_ (sI S x0 8 z4) fun S => wpX2_advance ln S x0 fun S => RL S x0 (0 : Int32) fun S => lt_ (hI S x0 8) fun z5 => lt_ (z5 - (1 : Int32)) fun z6 => lt_ (sI S x0 8 z6) fun S => wpX2_readClosing ln S x0 fun S => post S))
def bdX2_readPiece (ln : Nat → Nat) (RL : HC → Nat → Int32 → (HC → Prop) → Prop) (RP : HC → Nat → (HC → Prop) → Prop) (S : HC) (a0 : Nat) (post : HC → Prop) : Prop := lt_ (hI S a0 10) fun z7 => if z7 < 0 then (wpX2_isSign ln S a0 (33 : Int32) fun z8 S => if z8 = 0 then (BX2_readPiece_64 ln RL RP post S a0) else (lt_ (hI S a0 9) fun z9 => if (8 : Int32) ≤ z9 then (BX2_readPiece_64 ln RL RP post S a0) else (lt_ (hI S a0 9) fun z10 => lt_ (z10 + (1 : Int32)) fun z11 => lt_ (sI S a0 9 z11) fun S => wpX2_advance ln S a0 fun S => RP S a0 fun S => lt_ (hI S a0 9) fun z12 => lt_ (z12 - (1 : Int32)) fun z13 => lt_ (sI S a0 9 z13) fun S => wpX2_write ln S a0 (20033 : Int32) fun S => post S))) else (post S)
set_option maxHeartbeats 4000000 in
set_option maxRecDepth 100000 in
theorem stX2_readPiece {l : Launch} {g : GX} {N : Nat} {ln : Nat → Nat} {d : Nat} {RL : HC → Nat → Int32 → (HC → Prop) → Prop} {RP : HC → Nat → (HC → Prop) → Prop} (ihRL : ∀ (S : HC) (a0 : Nat) (a1 : Int32) (post : HC → Prop), a0 < N → kd a0 = 2 → RL S a0 a1 post → Met l yX2_readLevel (Cond.code yX2_readLevel prog_4_method_11_code 5 (Option.none : Option Jvm.ClassFile.FieldType) :: gtbl) (rmR d) (va_Pc [.ref (gz g + a0), .int a1] (AtP g N ln S)) (QV g N ln post) 0 0 (gF g)) (ihRP : ∀ (S : HC) (a0 : Nat) (post : HC → Prop), a0 < N → kd a0 = 2 → RP S a0 post → Met l yX2_readPiece (Cond.code yX2_readPiece prog_4_method_12_code 1 (Option.none : Option Jvm.ClassFile.FieldType) :: gtbl) (rmR d) (va_Pc [.ref (gz g + a0)] (AtP g N ln S)) (QV g N ln post) 0 0 (gF g)) {S : HC} {a0 : Nat} {post : HC → Prop} (hr_a0 : a0 < N) (hk_a0 : kd a0 = 2) (h : bdX2_readPiece ln RL RP S a0 post) : Met l yX2_readPiece (Cond.code yX2_readPiece prog_4_method_12_code 1 (Option.none : Option Jvm.ClassFile.FieldType) :: gtbl) (rmR (d + 1)) (va_Pc [.ref (gz g + a0)] (AtP g N ln S)) (QV g N ln post) 0 0 (gF g) := by
  refine m_of (by decide) (Nat.le_of_ble_eq_true rfl) ?_
  intro p e s m below meth c ls F hr I hl
  have hl : lv_has ls 1 [(0, .ref (gz g + a0))] := hl
  unfold bdX2_readPiece at h
  have hj_118 : ∀ (S : HC) (H : Heap) (locs : List Loc) (ls : Array Slot) (x0 : Nat), x0 < N → kd x0 = 2 → BX2_readPiece_118 ln RL RP post S x0 → Inv g N ln S s H locs → lv_has ls 1 [(0, .ref (gz g + x0))] → W p l e (rmR (d + 1)) s m ([.ref (gz g + a0)] : List Value).toArray below meth c H locs 0 0 (MQ below (QV g N ln post) ([.ref (gz g + a0)] : List Value).toArray s 0 0 (gF g)) (F0 m 118 ls []) := by
    intro S H locs ls x0 hr_x0 hk_x0 h I hl
    unfold BX2_readPiece_118 at h
    refine lv_aload_n F.1 F.2.1 dX2_readPiece_118 rfl (lv_at hl 0 rfl) ?_
    refine g_V I (run_V (As := []) (rest := []) F I hr_x0 hk_x0 (by decide) kX2_113 (ctX2_readLeaf hr_x0 hk_x0 h) ⟨rfl, rfl⟩ ⟨(by show 5 + 1 ≤ d + 1 + 20; omega), (by show 8 + (2 + 11) + 113 ≤ (d + 1) * 30 + 200; omega)⟩ rfl hl.1 rfl (Nat.le_of_ble_eq_true rfl) ⟨Nat.zero_le _, Nat.zero_le _⟩ dX2_readPiece_119) (fun S H locs I h => ?_)
    exact r_vreturn F I ⟨hr.1, hr.2.1, trivial⟩ h dX2_readPiece_122
  have hj_64 : ∀ (S : HC) (H : Heap) (locs : List Loc) (ls : Array Slot) (x0 : Nat), x0 < N → kd x0 = 2 → BX2_readPiece_64 ln RL RP post S x0 → Inv g N ln S s H locs → lv_has ls 1 [(0, .ref (gz g + x0))] → W p l e (rmR (d + 1)) s m ([.ref (gz g + a0)] : List Value).toArray below meth c H locs 0 0 (MQ below (QV g N ln post) ([.ref (gz g + a0)] : List Value).toArray s 0 0 (gF g)) (F0 m 64 ls []) := by
    intro S H locs ls x0 hr_x0 hk_x0 h I hl
    unfold BX2_readPiece_64 at h
    refine lv_aload_n F.1 F.2.1 dX2_readPiece_64 rfl (lv_at hl 0 rfl) ?_
    refine lv_bipush (v := 40) F.1 F.2.1 dX2_readPiece_65 (by decide) ?_
    refine g_I I (run_V (As := [.int (40 : Int32)]) (rest := []) F I hr_x0 hk_x0 (by decide) kX2_106 (ctX2_isSign hr_x0 hk_x0 h) ⟨rfl, rfl⟩ ⟨(by show 1 + 1 ≤ d + 1 + 20; omega), (by show 8 + (2 + 11) + 21 ≤ (d + 1) * 30 + 200; omega)⟩ rfl hl.1 rfl (Nat.le_of_ble_eq_true rfl) ⟨Nat.zero_le _, Nat.zero_le _⟩ dX2_readPiece_67) (fun z1 S H locs I h => ?_)
    refine r_if_eq (tgt := 118) F dX2_readPiece_70 (by decide) h (fun h => ?_) (fun h => ?_)
    · exact hj_118 S _ _ _ x0 hr_x0 hk_x0 h I (lv_sub hl [0] rfl)
    · refine lv_aload_n F.1 F.2.1 dX2_readPiece_73 rfl (lv_at hl 0 rfl) ?_
      refine r_getI F I hr_x0 hk_x0 fX2_41 rfl dX2_readPiece_74 h (fun z2 h => ?_)
      refine lv_bipush (v := 8) F.1 F.2.1 dX2_readPiece_77 (by decide) ?_
      refine r_icmp_ge (tgt := 118) F dX2_readPiece_79 (by decide) h (fun h => ?_) (fun h => ?_)
      · exact hj_118 S _ _ _ x0 hr_x0 hk_x0 h I (lv_sub hl [0] rfl)
      · refine lv_aload_n F.1 F.2.1 dX2_readPiece_82 rfl (lv_at hl 0 rfl) ?_
        refine lv_dup F.1 F.2.1 dX2_readPiece_83 rfl ?_
        refine r_getI F I hr_x0 hk_x0 fX2_41 rfl dX2_readPiece_84 h (fun z3 h => ?_)
        refine lv_iconst (v := 1) F.1 F.2.1 dX2_readPiece_87 (by decide) ?_
        refine r_iadd F dX2_readPiece_88 h (fun z4 h => ?_)
        refine r_putI F I hr_x0 hk_x0 fX2_41 rfl (Or.inl rfl) ⟨rfl, rfl⟩ dX2_readPiece_89 h (fun S H locs I h => ?_)
        refine lv_aload_n F.1 F.2.1 dX2_readPiece_92 rfl (lv_at hl 0 rfl) ?_
        refine g_V I (run_V (As := []) (rest := []) F I hr_x0 hk_x0 (by decide) kX2_50 (ctX2_advance hr_x0 hk_x0 h) ⟨rfl, rfl⟩ ⟨(by show 1 + 1 ≤ d + 1 + 20; omega), (by show 8 + (3 + 11) + 21 ≤ (d + 1) * 30 + 200; omega)⟩ rfl hl.1 rfl (Nat.le_of_ble_eq_true rfl) ⟨Nat.zero_le _, Nat.zero_le _⟩ dX2_readPiece_93) (fun S H locs I h => ?_)
        refine lv_aload_n F.1 F.2.1 dX2_readPiece_96 rfl (lv_at hl 0 rfl) ?_
        refine lv_iconst (v := 0) F.1 F.2.1 dX2_readPiece_97 (by decide) ?_
        refine g_V I (run_V (As := [.int (0 : Int32)]) (rest := []) F I hr_x0 hk_x0 (by decide) kX2_60 (ihRL S x0 (0 : Int32) _ hr_x0 hk_x0 h) ⟨rfl, rfl⟩ ⟨(by show d + 20 + 1 ≤ d + 1 + 20; omega), (by show 8 + (5 + 11) + (d * 30 + 200) ≤ (d + 1) * 30 + 200; omega)⟩ rfl hl.1 rfl (Nat.le_of_ble_eq_true rfl) ⟨Nat.zero_le _, Nat.zero_le _⟩ dX2_readPiece_98) (fun S H locs I h => ?_)
        refine lv_aload_n F.1 F.2.1 dX2_readPiece_101 rfl (lv_at hl 0 rfl) ?_
        refine lv_dup F.1 F.2.1 dX2_readPiece_102 rfl ?_
        refine r_getI F I hr_x0 hk_x0 fX2_41 rfl dX2_readPiece_103 h (fun z5 h => ?_)
        refine lv_iconst (v := 1) F.1 F.2.1 dX2_readPiece_106 (by decide) ?_
        refine r_isub F dX2_readPiece_107 h (fun z6 h => ?_)
        refine r_putI F I hr_x0 hk_x0 fX2_41 rfl (Or.inl rfl) ⟨rfl, rfl⟩ dX2_readPiece_108 h (fun S H locs I h => ?_)
        refine lv_aload_n F.1 F.2.1 dX2_readPiece_111 rfl (lv_at hl 0 rfl) ?_
        refine g_V I (run_V (As := []) (rest := []) F I hr_x0 hk_x0 (by decide) kX2_110 (ctX2_readClosing hr_x0 hk_x0 h) ⟨rfl, rfl⟩ ⟨(by show 2 + 1 ≤ d + 1 + 20; omega), (by show 8 + (1 + 11) + 43 ≤ (d + 1) * 30 + 200; omega)⟩ rfl hl.1 rfl (Nat.le_of_ble_eq_true rfl) ⟨Nat.zero_le _, Nat.zero_le _⟩ dX2_readPiece_112) (fun S H locs I h => ?_)
        refine lv_goto (tgt := 122) F.1 F.2.1 dX2_readPiece_115 (by decide) ?_
        exact r_vreturn F I ⟨hr.1, hr.2.1, trivial⟩ h dX2_readPiece_122
  refine lv_aload_n F.1 F.2.1 dX2_readPiece_0 rfl (lv_at hl 0 rfl) ?_
  refine r_getI F I hr_a0 hk_a0 fX2_47 rfl dX2_readPiece_1 h (fun z7 h => ?_)
  refine r_if_lt (tgt := 8) F dX2_readPiece_4 (by decide) h (fun h => ?_) (fun h => ?_)
  · refine lv_aload_n F.1 F.2.1 dX2_readPiece_8 rfl (lv_at hl 0 rfl) ?_
    refine lv_bipush (v := 33) F.1 F.2.1 dX2_readPiece_9 (by decide) ?_
    refine g_I I (run_V (As := [.int (33 : Int32)]) (rest := []) F I hr_a0 hk_a0 (by decide) kX2_106 (ctX2_isSign hr_a0 hk_a0 h) ⟨rfl, rfl⟩ ⟨(by show 1 + 1 ≤ d + 1 + 20; omega), (by show 8 + (2 + 11) + 21 ≤ (d + 1) * 30 + 200; omega)⟩ rfl hl.1 rfl (Nat.le_of_ble_eq_true rfl) ⟨Nat.zero_le _, Nat.zero_le _⟩ dX2_readPiece_11) (fun z8 S H locs I h => ?_)
    refine r_if_eq (tgt := 64) F dX2_readPiece_14 (by decide) h (fun h => ?_) (fun h => ?_)
    · exact hj_64 S _ _ _ a0 hr_a0 hk_a0 h I (lv_sub hl [0] rfl)
    · refine lv_aload_n F.1 F.2.1 dX2_readPiece_17 rfl (lv_at hl 0 rfl) ?_
      refine r_getI F I hr_a0 hk_a0 fX2_44 rfl dX2_readPiece_18 h (fun z9 h => ?_)
      refine lv_bipush (v := 8) F.1 F.2.1 dX2_readPiece_21 (by decide) ?_
      refine r_icmp_ge (tgt := 64) F dX2_readPiece_23 (by decide) h (fun h => ?_) (fun h => ?_)
      · exact hj_64 S _ _ _ a0 hr_a0 hk_a0 h I (lv_sub hl [0] rfl)
      · refine lv_aload_n F.1 F.2.1 dX2_readPiece_26 rfl (lv_at hl 0 rfl) ?_
        refine lv_dup F.1 F.2.1 dX2_readPiece_27 rfl ?_
        refine r_getI F I hr_a0 hk_a0 fX2_44 rfl dX2_readPiece_28 h (fun z10 h => ?_)
        refine lv_iconst (v := 1) F.1 F.2.1 dX2_readPiece_31 (by decide) ?_
        refine r_iadd F dX2_readPiece_32 h (fun z11 h => ?_)
        refine r_putI F I hr_a0 hk_a0 fX2_44 rfl (Or.inl rfl) ⟨rfl, rfl⟩ dX2_readPiece_33 h (fun S H locs I h => ?_)
        refine lv_aload_n F.1 F.2.1 dX2_readPiece_36 rfl (lv_at hl 0 rfl) ?_
        refine g_V I (run_V (As := []) (rest := []) F I hr_a0 hk_a0 (by decide) kX2_50 (ctX2_advance hr_a0 hk_a0 h) ⟨rfl, rfl⟩ ⟨(by show 1 + 1 ≤ d + 1 + 20; omega), (by show 8 + (3 + 11) + 21 ≤ (d + 1) * 30 + 200; omega)⟩ rfl hl.1 rfl (Nat.le_of_ble_eq_true rfl) ⟨Nat.zero_le _, Nat.zero_le _⟩ dX2_readPiece_37) (fun S H locs I h => ?_)
        refine lv_aload_n F.1 F.2.1 dX2_readPiece_40 rfl (lv_at hl 0 rfl) ?_
        refine g_V I (run_V (As := []) (rest := []) F I hr_a0 hk_a0 (by decide) kX2_97 (ihRP S a0 _ hr_a0 hk_a0 h) ⟨rfl, rfl⟩ ⟨(by show d + 20 + 1 ≤ d + 1 + 20; omega), (by show 8 + (1 + 11) + (d * 30 + 200) ≤ (d + 1) * 30 + 200; omega)⟩ rfl hl.1 rfl (Nat.le_of_ble_eq_true rfl) ⟨Nat.zero_le _, Nat.zero_le _⟩ dX2_readPiece_41) (fun S H locs I h => ?_)
        refine lv_aload_n F.1 F.2.1 dX2_readPiece_44 rfl (lv_at hl 0 rfl) ?_
        refine lv_dup F.1 F.2.1 dX2_readPiece_45 rfl ?_
        refine r_getI F I hr_a0 hk_a0 fX2_44 rfl dX2_readPiece_46 h (fun z12 h => ?_)
        refine lv_iconst (v := 1) F.1 F.2.1 dX2_readPiece_49 (by decide) ?_
        refine r_isub F dX2_readPiece_50 h (fun z13 h => ?_)
        refine r_putI F I hr_a0 hk_a0 fX2_44 rfl (Or.inl rfl) ⟨rfl, rfl⟩ dX2_readPiece_51 h (fun S H locs I h => ?_)
        refine lv_aload_n F.1 F.2.1 dX2_readPiece_54 rfl (lv_at hl 0 rfl) ?_
        refine lv_sipush (v := 20033) F.1 F.2.1 dX2_readPiece_55 (by decide) ?_
        refine g_V I (run_V (As := [.int (20033 : Int32)]) (rest := []) F I hr_a0 hk_a0 (by decide) kX2_103 (ctX2_write hr_a0 hk_a0 h) ⟨rfl, rfl⟩ ⟨(by show 0 + 1 ≤ d + 1 + 20; omega), (by show 8 + (2 + 11) + 0 ≤ (d + 1) * 30 + 200; omega)⟩ rfl hl.1 rfl (Nat.le_of_ble_eq_true rfl) ⟨Nat.zero_le _, Nat.zero_le _⟩ dX2_readPiece_58) (fun S H locs I h => ?_)
        refine lv_goto (tgt := 122) F.1 F.2.1 dX2_readPiece_61 (by decide) ?_
        exact r_vreturn F I ⟨hr.1, hr.2.1, trivial⟩ h dX2_readPiece_122
  · exact r_vreturn F I ⟨hr.1, hr.2.1, trivial⟩ h dX2_readPiece_7
def wpRec (ln : Nat → Nat) : Nat → (HC → Nat → Int32 → (HC → Prop) → Prop) × (HC → Nat → (HC → Prop) → Prop)
  | 0 => (fun _ _ _ _ => False, fun _ _ _ => False)
  | d + 1 => (fun S a0 a1 post => bdX2_readLevel ln (wpRec ln d).1 (wpRec ln d).2 S a0 a1 post, fun S a0 post => bdX2_readPiece ln (wpRec ln d).1 (wpRec ln d).2 S a0 post)
theorem ctRec {l : Launch} {g : GX} {N : Nat} {ln : Nat → Nat} : ∀ d : Nat, (∀ (S : HC) (a0 : Nat) (a1 : Int32) (post : HC → Prop), a0 < N → kd a0 = 2 → (wpRec ln d).1 S a0 a1 post → Met l yX2_readLevel (Cond.code yX2_readLevel prog_4_method_11_code 5 (Option.none : Option Jvm.ClassFile.FieldType) :: gtbl) (rmR d) (va_Pc [.ref (gz g + a0), .int a1] (AtP g N ln S)) (QV g N ln post) 0 0 (gF g)) ∧ (∀ (S : HC) (a0 : Nat) (post : HC → Prop), a0 < N → kd a0 = 2 → (wpRec ln d).2 S a0 post → Met l yX2_readPiece (Cond.code yX2_readPiece prog_4_method_12_code 1 (Option.none : Option Jvm.ClassFile.FieldType) :: gtbl) (rmR d) (va_Pc [.ref (gz g + a0)] (AtP g N ln S)) (QV g N ln post) 0 0 (gF g)) := by
  intro d
  induction d with
  | zero => exact ⟨fun _ _ _ _ _ _ h => h.elim, fun _ _ _ _ _ h => h.elim⟩
  | succ d ih => exact ⟨fun S a0 a1 post hr hk h => stX2_readLevel ih.1 ih.2 hr hk h, fun S a0 post hr hk h => stX2_readPiece ih.1 ih.2 hr hk h⟩
theorem bdX2_readTape_0 : ∀ q ∈ ([(0, .aload_n 0, 1), (1, .iconst 0, 1), (2, .putfield 18, 3), (5, .aload_n 0, 1), (6, .iconst 0, 1), (7, .putfield 22, 3), (10, .aload_n 0, 1), (11, .iconst 0, 1), (12, .putfield 25, 3), (15, .aload_n 0, 1), (16, .iconst 0, 1), (17, .putfield 35, 3), (20, .aload_n 0, 1), (21, .iconst 0, 1), (22, .putfield 38, 3), (25, .aload_n 0, 1), (26, .iconst 0, 1), (27, .putfield 41, 3), (30, .aload_n 0, 1), (31, .iconst 0, 1), (32, .putfield 44, 3), (35, .aload_n 0, 1), (36, .iconst (-1), 1), (37, .putfield 47, 3), (40, .aload_n 0, 1), (41, .invokevirtual 50, 3), (44, .aload_n 0, 1), (45, .aload_n 0, 1), (46, .invokevirtual 53, 3), (49, .putfield 28, 3), (52, .aload_n 0, 1), (53, .getfield 28, 3), (56, .ifCond .ge 8, 3), (59, .aload_n 0, 1), (60, .invokevirtual 57, 3), (63, .return_, 1), (64, .aload_n 0, 1), (65, .invokevirtual 50, 3), (68, .aload_n 0, 1), (69, .iconst 0, 1)] : List (Nat × Jvm.ClassFile.Instr × Nat)), decode cX2_readTape q.1 = .ok q.2 := chk_ok _ 0 _ rfl (by decide +kernel)
theorem dX2_readTape_0 : decode cX2_readTape 0 = .ok (.aload_n 0, 1) := bdX2_readTape_0 (0, .aload_n 0, 1) (List.mem_of_getElem? (i := 0) rfl)
theorem dX2_readTape_1 : decode cX2_readTape 1 = .ok (.iconst 0, 1) := bdX2_readTape_0 (1, .iconst 0, 1) (List.mem_of_getElem? (i := 1) rfl)
theorem dX2_readTape_2 : decode cX2_readTape 2 = .ok (.putfield 18, 3) := bdX2_readTape_0 (2, .putfield 18, 3) (List.mem_of_getElem? (i := 2) rfl)
theorem dX2_readTape_5 : decode cX2_readTape 5 = .ok (.aload_n 0, 1) := bdX2_readTape_0 (5, .aload_n 0, 1) (List.mem_of_getElem? (i := 3) rfl)
theorem dX2_readTape_6 : decode cX2_readTape 6 = .ok (.iconst 0, 1) := bdX2_readTape_0 (6, .iconst 0, 1) (List.mem_of_getElem? (i := 4) rfl)
theorem dX2_readTape_7 : decode cX2_readTape 7 = .ok (.putfield 22, 3) := bdX2_readTape_0 (7, .putfield 22, 3) (List.mem_of_getElem? (i := 5) rfl)
theorem dX2_readTape_10 : decode cX2_readTape 10 = .ok (.aload_n 0, 1) := bdX2_readTape_0 (10, .aload_n 0, 1) (List.mem_of_getElem? (i := 6) rfl)
theorem dX2_readTape_11 : decode cX2_readTape 11 = .ok (.iconst 0, 1) := bdX2_readTape_0 (11, .iconst 0, 1) (List.mem_of_getElem? (i := 7) rfl)
theorem dX2_readTape_12 : decode cX2_readTape 12 = .ok (.putfield 25, 3) := bdX2_readTape_0 (12, .putfield 25, 3) (List.mem_of_getElem? (i := 8) rfl)
theorem dX2_readTape_15 : decode cX2_readTape 15 = .ok (.aload_n 0, 1) := bdX2_readTape_0 (15, .aload_n 0, 1) (List.mem_of_getElem? (i := 9) rfl)
theorem dX2_readTape_16 : decode cX2_readTape 16 = .ok (.iconst 0, 1) := bdX2_readTape_0 (16, .iconst 0, 1) (List.mem_of_getElem? (i := 10) rfl)
theorem dX2_readTape_17 : decode cX2_readTape 17 = .ok (.putfield 35, 3) := bdX2_readTape_0 (17, .putfield 35, 3) (List.mem_of_getElem? (i := 11) rfl)
theorem dX2_readTape_20 : decode cX2_readTape 20 = .ok (.aload_n 0, 1) := bdX2_readTape_0 (20, .aload_n 0, 1) (List.mem_of_getElem? (i := 12) rfl)
theorem dX2_readTape_21 : decode cX2_readTape 21 = .ok (.iconst 0, 1) := bdX2_readTape_0 (21, .iconst 0, 1) (List.mem_of_getElem? (i := 13) rfl)
theorem dX2_readTape_22 : decode cX2_readTape 22 = .ok (.putfield 38, 3) := bdX2_readTape_0 (22, .putfield 38, 3) (List.mem_of_getElem? (i := 14) rfl)
theorem dX2_readTape_25 : decode cX2_readTape 25 = .ok (.aload_n 0, 1) := bdX2_readTape_0 (25, .aload_n 0, 1) (List.mem_of_getElem? (i := 15) rfl)
theorem dX2_readTape_26 : decode cX2_readTape 26 = .ok (.iconst 0, 1) := bdX2_readTape_0 (26, .iconst 0, 1) (List.mem_of_getElem? (i := 16) rfl)
theorem dX2_readTape_27 : decode cX2_readTape 27 = .ok (.putfield 41, 3) := bdX2_readTape_0 (27, .putfield 41, 3) (List.mem_of_getElem? (i := 17) rfl)
theorem dX2_readTape_30 : decode cX2_readTape 30 = .ok (.aload_n 0, 1) := bdX2_readTape_0 (30, .aload_n 0, 1) (List.mem_of_getElem? (i := 18) rfl)
theorem dX2_readTape_31 : decode cX2_readTape 31 = .ok (.iconst 0, 1) := bdX2_readTape_0 (31, .iconst 0, 1) (List.mem_of_getElem? (i := 19) rfl)
theorem dX2_readTape_32 : decode cX2_readTape 32 = .ok (.putfield 44, 3) := bdX2_readTape_0 (32, .putfield 44, 3) (List.mem_of_getElem? (i := 20) rfl)
theorem dX2_readTape_35 : decode cX2_readTape 35 = .ok (.aload_n 0, 1) := bdX2_readTape_0 (35, .aload_n 0, 1) (List.mem_of_getElem? (i := 21) rfl)
theorem dX2_readTape_36 : decode cX2_readTape 36 = .ok (.iconst (-1), 1) := bdX2_readTape_0 (36, .iconst (-1), 1) (List.mem_of_getElem? (i := 22) rfl)
theorem dX2_readTape_37 : decode cX2_readTape 37 = .ok (.putfield 47, 3) := bdX2_readTape_0 (37, .putfield 47, 3) (List.mem_of_getElem? (i := 23) rfl)
theorem dX2_readTape_40 : decode cX2_readTape 40 = .ok (.aload_n 0, 1) := bdX2_readTape_0 (40, .aload_n 0, 1) (List.mem_of_getElem? (i := 24) rfl)
theorem dX2_readTape_41 : decode cX2_readTape 41 = .ok (.invokevirtual 50, 3) := bdX2_readTape_0 (41, .invokevirtual 50, 3) (List.mem_of_getElem? (i := 25) rfl)
theorem dX2_readTape_44 : decode cX2_readTape 44 = .ok (.aload_n 0, 1) := bdX2_readTape_0 (44, .aload_n 0, 1) (List.mem_of_getElem? (i := 26) rfl)
theorem dX2_readTape_45 : decode cX2_readTape 45 = .ok (.aload_n 0, 1) := bdX2_readTape_0 (45, .aload_n 0, 1) (List.mem_of_getElem? (i := 27) rfl)
theorem dX2_readTape_46 : decode cX2_readTape 46 = .ok (.invokevirtual 53, 3) := bdX2_readTape_0 (46, .invokevirtual 53, 3) (List.mem_of_getElem? (i := 28) rfl)
theorem dX2_readTape_49 : decode cX2_readTape 49 = .ok (.putfield 28, 3) := bdX2_readTape_0 (49, .putfield 28, 3) (List.mem_of_getElem? (i := 29) rfl)
theorem dX2_readTape_52 : decode cX2_readTape 52 = .ok (.aload_n 0, 1) := bdX2_readTape_0 (52, .aload_n 0, 1) (List.mem_of_getElem? (i := 30) rfl)
theorem dX2_readTape_53 : decode cX2_readTape 53 = .ok (.getfield 28, 3) := bdX2_readTape_0 (53, .getfield 28, 3) (List.mem_of_getElem? (i := 31) rfl)
theorem dX2_readTape_56 : decode cX2_readTape 56 = .ok (.ifCond .ge 8, 3) := bdX2_readTape_0 (56, .ifCond .ge 8, 3) (List.mem_of_getElem? (i := 32) rfl)
theorem dX2_readTape_59 : decode cX2_readTape 59 = .ok (.aload_n 0, 1) := bdX2_readTape_0 (59, .aload_n 0, 1) (List.mem_of_getElem? (i := 33) rfl)
theorem dX2_readTape_60 : decode cX2_readTape 60 = .ok (.invokevirtual 57, 3) := bdX2_readTape_0 (60, .invokevirtual 57, 3) (List.mem_of_getElem? (i := 34) rfl)
theorem dX2_readTape_63 : decode cX2_readTape 63 = .ok (.return_, 1) := bdX2_readTape_0 (63, .return_, 1) (List.mem_of_getElem? (i := 35) rfl)
theorem dX2_readTape_64 : decode cX2_readTape 64 = .ok (.aload_n 0, 1) := bdX2_readTape_0 (64, .aload_n 0, 1) (List.mem_of_getElem? (i := 36) rfl)
theorem dX2_readTape_65 : decode cX2_readTape 65 = .ok (.invokevirtual 50, 3) := bdX2_readTape_0 (65, .invokevirtual 50, 3) (List.mem_of_getElem? (i := 37) rfl)
theorem dX2_readTape_68 : decode cX2_readTape 68 = .ok (.aload_n 0, 1) := bdX2_readTape_0 (68, .aload_n 0, 1) (List.mem_of_getElem? (i := 38) rfl)
theorem dX2_readTape_69 : decode cX2_readTape 69 = .ok (.iconst 0, 1) := bdX2_readTape_0 (69, .iconst 0, 1) (List.mem_of_getElem? (i := 39) rfl)
theorem bdX2_readTape_70 : ∀ q ∈ ([(70, .invokevirtual 60, 3), (73, .aload_n 0, 1), (74, .getfield 18, 3), (77, .ifCond .eq 7, 3), (80, .aload_n 0, 1), (81, .invokevirtual 57, 3), (84, .return_, 1)] : List (Nat × Jvm.ClassFile.Instr × Nat)), decode cX2_readTape q.1 = .ok q.2 := chk_ok _ 70 _ rfl (by decide +kernel)
theorem dX2_readTape_70 : decode cX2_readTape 70 = .ok (.invokevirtual 60, 3) := bdX2_readTape_70 (70, .invokevirtual 60, 3) (List.mem_of_getElem? (i := 0) rfl)
theorem dX2_readTape_73 : decode cX2_readTape 73 = .ok (.aload_n 0, 1) := bdX2_readTape_70 (73, .aload_n 0, 1) (List.mem_of_getElem? (i := 1) rfl)
theorem dX2_readTape_74 : decode cX2_readTape 74 = .ok (.getfield 18, 3) := bdX2_readTape_70 (74, .getfield 18, 3) (List.mem_of_getElem? (i := 2) rfl)
theorem dX2_readTape_77 : decode cX2_readTape 77 = .ok (.ifCond .eq 7, 3) := bdX2_readTape_70 (77, .ifCond .eq 7, 3) (List.mem_of_getElem? (i := 3) rfl)
theorem dX2_readTape_80 : decode cX2_readTape 80 = .ok (.aload_n 0, 1) := bdX2_readTape_70 (80, .aload_n 0, 1) (List.mem_of_getElem? (i := 4) rfl)
theorem dX2_readTape_81 : decode cX2_readTape 81 = .ok (.invokevirtual 57, 3) := bdX2_readTape_70 (81, .invokevirtual 57, 3) (List.mem_of_getElem? (i := 5) rfl)
theorem dX2_readTape_84 : decode cX2_readTape 84 = .ok (.return_, 1) := bdX2_readTape_70 (84, .return_, 1) (List.mem_of_getElem? (i := 6) rfl)
theorem kX2_53 : mthV RX2 53 2 yX2_keyHere prog_4_method_7_code 1 (Option.some Jvm.ClassFile.FieldType.int) 0 := ⟨⟨⟨tw_651, tw_63, tw_654⟩, rfl, by decide +kernel⟩, tw_653, tw_9, rfl⟩
def wpX2_readTape (ln : Nat → Nat) (S : HC) (a0 : Nat) (post : HC → Prop) : Prop := lt_ (sI S a0 1 (0 : Int32)) fun S => lt_ (sI S a0 2 (0 : Int32)) fun S => lt_ (sI S a0 3 (0 : Int32)) fun S => lt_ (sI S a0 6 (0 : Int32)) fun S => lt_ (sI S a0 7 (0 : Int32)) fun S => lt_ (sI S a0 8 (0 : Int32)) fun S => lt_ (sI S a0 9 (0 : Int32)) fun S => lt_ (sI S a0 10 (-1 : Int32)) fun S => wpX2_advance ln S a0 fun S => wpX2_keyHere ln S a0 fun z1 S => lt_ (sI S a0 4 z1) fun S => lt_ (hI S a0 4) fun z2 => if 0 ≤ z2 then (wpX2_advance ln S a0 fun S => (wpRec ln 80).1 S a0 (0 : Int32) fun S => lt_ (hI S a0 1) fun z3 => if z3 = 0 then (post S) else (wpX2_fail ln S a0 fun S => post S)) else (wpX2_fail ln S a0 fun S => post S)
abbrev rmX2_readTape : Room := { frames := 101, cells := 0, slots := 0, locals := 2624 }
set_option maxHeartbeats 4000000 in
set_option maxRecDepth 100000 in
theorem ctX2_readTape {l : Launch} {g : GX} {N : Nat} {ln : Nat → Nat} {S : HC} {a0 : Nat} {post : HC → Prop} (hr_a0 : a0 < N) (hk_a0 : kd a0 = 2) (h : wpX2_readTape ln S a0 post) : Met l yX2_readTape (Cond.code yX2_readTape prog_4_method_2_code 1 (Option.none : Option Jvm.ClassFile.FieldType) :: gtbl) rmX2_readTape (va_Pc [.ref (gz g + a0)] (AtP g N ln S)) (QV g N ln post) 0 0 (gF g) := by
  refine m_of (by decide) (Nat.le_of_ble_eq_true rfl) ?_
  intro p e s m below meth c ls F hr I hl
  have hl : lv_has ls 1 [(0, .ref (gz g + a0))] := hl
  unfold wpX2_readTape at h
  refine lv_aload_n F.1 F.2.1 dX2_readTape_0 rfl (lv_at hl 0 rfl) ?_
  refine lv_iconst (v := 0) F.1 F.2.1 dX2_readTape_1 (by decide) ?_
  refine r_putI F I hr_a0 hk_a0 fX2_18 rfl (Or.inl rfl) ⟨rfl, rfl⟩ dX2_readTape_2 h (fun S H locs I h => ?_)
  refine lv_aload_n F.1 F.2.1 dX2_readTape_5 rfl (lv_at hl 0 rfl) ?_
  refine lv_iconst (v := 0) F.1 F.2.1 dX2_readTape_6 (by decide) ?_
  refine r_putI F I hr_a0 hk_a0 fX2_22 rfl (Or.inl rfl) ⟨rfl, rfl⟩ dX2_readTape_7 h (fun S H locs I h => ?_)
  refine lv_aload_n F.1 F.2.1 dX2_readTape_10 rfl (lv_at hl 0 rfl) ?_
  refine lv_iconst (v := 0) F.1 F.2.1 dX2_readTape_11 (by decide) ?_
  refine r_putI F I hr_a0 hk_a0 fX2_25 rfl (Or.inl rfl) ⟨rfl, rfl⟩ dX2_readTape_12 h (fun S H locs I h => ?_)
  refine lv_aload_n F.1 F.2.1 dX2_readTape_15 rfl (lv_at hl 0 rfl) ?_
  refine lv_iconst (v := 0) F.1 F.2.1 dX2_readTape_16 (by decide) ?_
  refine r_putI F I hr_a0 hk_a0 fX2_35 rfl (Or.inl rfl) ⟨rfl, rfl⟩ dX2_readTape_17 h (fun S H locs I h => ?_)
  refine lv_aload_n F.1 F.2.1 dX2_readTape_20 rfl (lv_at hl 0 rfl) ?_
  refine lv_iconst (v := 0) F.1 F.2.1 dX2_readTape_21 (by decide) ?_
  refine r_putI F I hr_a0 hk_a0 fX2_38 rfl (Or.inl rfl) ⟨rfl, rfl⟩ dX2_readTape_22 h (fun S H locs I h => ?_)
  refine lv_aload_n F.1 F.2.1 dX2_readTape_25 rfl (lv_at hl 0 rfl) ?_
  refine lv_iconst (v := 0) F.1 F.2.1 dX2_readTape_26 (by decide) ?_
  refine r_putI F I hr_a0 hk_a0 fX2_41 rfl (Or.inl rfl) ⟨rfl, rfl⟩ dX2_readTape_27 h (fun S H locs I h => ?_)
  refine lv_aload_n F.1 F.2.1 dX2_readTape_30 rfl (lv_at hl 0 rfl) ?_
  refine lv_iconst (v := 0) F.1 F.2.1 dX2_readTape_31 (by decide) ?_
  refine r_putI F I hr_a0 hk_a0 fX2_44 rfl (Or.inl rfl) ⟨rfl, rfl⟩ dX2_readTape_32 h (fun S H locs I h => ?_)
  refine lv_aload_n F.1 F.2.1 dX2_readTape_35 rfl (lv_at hl 0 rfl) ?_
  refine lv_iconst (v := -1) F.1 F.2.1 dX2_readTape_36 (by decide) ?_
  refine r_putI F I hr_a0 hk_a0 fX2_47 rfl (Or.inl rfl) ⟨rfl, rfl⟩ dX2_readTape_37 h (fun S H locs I h => ?_)
  refine lv_aload_n F.1 F.2.1 dX2_readTape_40 rfl (lv_at hl 0 rfl) ?_
  refine g_V I (run_V (As := []) (rest := []) F I hr_a0 hk_a0 (by decide) kX2_50 (ctX2_advance hr_a0 hk_a0 h) ⟨rfl, rfl⟩ ⟨Nat.le_of_ble_eq_true rfl, Nat.le_of_ble_eq_true rfl⟩ rfl hl.1 rfl (Nat.le_of_ble_eq_true rfl) ⟨Nat.le_of_ble_eq_true rfl, Nat.le_of_ble_eq_true rfl⟩ dX2_readTape_41) (fun S H locs I h => ?_)
  refine lv_aload_n F.1 F.2.1 dX2_readTape_44 rfl (lv_at hl 0 rfl) ?_
  refine lv_aload_n F.1 F.2.1 dX2_readTape_45 rfl (lv_at hl 0 rfl) ?_
  refine g_I I (run_V (As := []) (rest := [.ref (gz g + a0)]) F I hr_a0 hk_a0 (by decide) kX2_53 (ctX2_keyHere hr_a0 hk_a0 h) ⟨rfl, rfl⟩ ⟨Nat.le_of_ble_eq_true rfl, Nat.le_of_ble_eq_true rfl⟩ rfl hl.1 rfl (Nat.le_of_ble_eq_true rfl) ⟨Nat.le_of_ble_eq_true rfl, Nat.le_of_ble_eq_true rfl⟩ dX2_readTape_46) (fun z1 S H locs I h => ?_)
  refine r_putI F I hr_a0 hk_a0 fX2_28 rfl (Or.inl rfl) ⟨rfl, rfl⟩ dX2_readTape_49 h (fun S H locs I h => ?_)
  refine lv_aload_n F.1 F.2.1 dX2_readTape_52 rfl (lv_at hl 0 rfl) ?_
  refine r_getI F I hr_a0 hk_a0 fX2_28 rfl dX2_readTape_53 h (fun z2 h => ?_)
  refine r_if_ge (tgt := 64) F dX2_readTape_56 (by decide) h (fun h => ?_) (fun h => ?_)
  · refine lv_aload_n F.1 F.2.1 dX2_readTape_64 rfl (lv_at hl 0 rfl) ?_
    refine g_V I (run_V (As := []) (rest := []) F I hr_a0 hk_a0 (by decide) kX2_50 (ctX2_advance hr_a0 hk_a0 h) ⟨rfl, rfl⟩ ⟨Nat.le_of_ble_eq_true rfl, Nat.le_of_ble_eq_true rfl⟩ rfl hl.1 rfl (Nat.le_of_ble_eq_true rfl) ⟨Nat.le_of_ble_eq_true rfl, Nat.le_of_ble_eq_true rfl⟩ dX2_readTape_65) (fun S H locs I h => ?_)
    refine lv_aload_n F.1 F.2.1 dX2_readTape_68 rfl (lv_at hl 0 rfl) ?_
    refine lv_iconst (v := 0) F.1 F.2.1 dX2_readTape_69 (by decide) ?_
    refine g_V I (run_V (As := [.int (0 : Int32)]) (rest := []) F I hr_a0 hk_a0 (by decide) kX2_60 ((ctRec 80).1 _ _ _ _ hr_a0 hk_a0 h) ⟨rfl, rfl⟩ ⟨Nat.le_of_ble_eq_true rfl, Nat.le_of_ble_eq_true rfl⟩ rfl hl.1 rfl (Nat.le_of_ble_eq_true rfl) ⟨Nat.le_of_ble_eq_true rfl, Nat.le_of_ble_eq_true rfl⟩ dX2_readTape_70) (fun S H locs I h => ?_)
    refine lv_aload_n F.1 F.2.1 dX2_readTape_73 rfl (lv_at hl 0 rfl) ?_
    refine r_getI F I hr_a0 hk_a0 fX2_18 rfl dX2_readTape_74 h (fun z3 h => ?_)
    refine r_if_eq (tgt := 84) F dX2_readTape_77 (by decide) h (fun h => ?_) (fun h => ?_)
    · exact r_vreturn F I ⟨hr.1, hr.2.1, trivial⟩ h dX2_readTape_84
    · refine lv_aload_n F.1 F.2.1 dX2_readTape_80 rfl (lv_at hl 0 rfl) ?_
      refine g_V I (run_V (As := []) (rest := []) F I hr_a0 hk_a0 (by decide) kX2_57 (ctX2_fail hr_a0 hk_a0 h) ⟨rfl, rfl⟩ ⟨Nat.le_of_ble_eq_true rfl, Nat.le_of_ble_eq_true rfl⟩ rfl hl.1 rfl (Nat.le_of_ble_eq_true rfl) ⟨Nat.le_of_ble_eq_true rfl, Nat.le_of_ble_eq_true rfl⟩ dX2_readTape_81) (fun S H locs I h => ?_)
      exact r_vreturn F I ⟨hr.1, hr.2.1, trivial⟩ h dX2_readTape_84
  · refine lv_aload_n F.1 F.2.1 dX2_readTape_59 rfl (lv_at hl 0 rfl) ?_
    refine g_V I (run_V (As := []) (rest := []) F I hr_a0 hk_a0 (by decide) kX2_57 (ctX2_fail hr_a0 hk_a0 h) ⟨rfl, rfl⟩ ⟨Nat.le_of_ble_eq_true rfl, Nat.le_of_ble_eq_true rfl⟩ rfl hl.1 rfl (Nat.le_of_ble_eq_true rfl) ⟨Nat.le_of_ble_eq_true rfl, Nat.le_of_ble_eq_true rfl⟩ dX2_readTape_60) (fun S H locs I h => ?_)
    exact r_vreturn F I ⟨hr.1, hr.2.1, trivial⟩ h dX2_readTape_63
theorem bdX2_lawRead_0 : ∀ q ∈ ([(0, .aload_n 0, 1), (1, .getfield 35, 3), (6, .astore_n 1, 1), (7, .iconst 0, 1), (8, .istore_n 2, 1), (9, .iload_n 2, 1), (10, .aload_n 0, 1), (11, .getfield 35, 3), (14, .if_icmp .ge 24, 3), (17, .iload_n 2, 1), (18, .bipush 96, 2), (20, .if_icmp .ge 18, 3), (23, .aload_n 1, 1), (24, .iload_n 2, 1), (25, .aload_n 0, 1), (26, .getfield 31, 3), (29, .iload_n 2, 1), (30, .iaload, 1), (31, .iastore, 1), (32, .iinc 2 1, 3), (35, .goto (-26), 3), (41, .dup, 1), (42, .aload_n 0, 1), (43, .getfield 28, 3), (46, .aload_n 0, 1), (47, .getfield 38, 3), (50, .aload_n 1, 1), (51, .invokespecial 66, 3)] : List (Nat × Jvm.ClassFile.Instr × Nat)), decode cX2_lawRead q.1 = .ok q.2 := chk_ok _ 0 _ rfl (by decide +kernel)
theorem dX2_lawRead_0 : decode cX2_lawRead 0 = .ok (.aload_n 0, 1) := bdX2_lawRead_0 (0, .aload_n 0, 1) (List.mem_of_getElem? (i := 0) rfl)
theorem dX2_lawRead_1 : decode cX2_lawRead 1 = .ok (.getfield 35, 3) := bdX2_lawRead_0 (1, .getfield 35, 3) (List.mem_of_getElem? (i := 1) rfl)
theorem dX2_lawRead_6 : decode cX2_lawRead 6 = .ok (.astore_n 1, 1) := bdX2_lawRead_0 (6, .astore_n 1, 1) (List.mem_of_getElem? (i := 2) rfl)
theorem dX2_lawRead_7 : decode cX2_lawRead 7 = .ok (.iconst 0, 1) := bdX2_lawRead_0 (7, .iconst 0, 1) (List.mem_of_getElem? (i := 3) rfl)
theorem dX2_lawRead_8 : decode cX2_lawRead 8 = .ok (.istore_n 2, 1) := bdX2_lawRead_0 (8, .istore_n 2, 1) (List.mem_of_getElem? (i := 4) rfl)
theorem dX2_lawRead_9 : decode cX2_lawRead 9 = .ok (.iload_n 2, 1) := bdX2_lawRead_0 (9, .iload_n 2, 1) (List.mem_of_getElem? (i := 5) rfl)
theorem dX2_lawRead_10 : decode cX2_lawRead 10 = .ok (.aload_n 0, 1) := bdX2_lawRead_0 (10, .aload_n 0, 1) (List.mem_of_getElem? (i := 6) rfl)
theorem dX2_lawRead_11 : decode cX2_lawRead 11 = .ok (.getfield 35, 3) := bdX2_lawRead_0 (11, .getfield 35, 3) (List.mem_of_getElem? (i := 7) rfl)
theorem dX2_lawRead_14 : decode cX2_lawRead 14 = .ok (.if_icmp .ge 24, 3) := bdX2_lawRead_0 (14, .if_icmp .ge 24, 3) (List.mem_of_getElem? (i := 8) rfl)
theorem dX2_lawRead_17 : decode cX2_lawRead 17 = .ok (.iload_n 2, 1) := bdX2_lawRead_0 (17, .iload_n 2, 1) (List.mem_of_getElem? (i := 9) rfl)
theorem dX2_lawRead_18 : decode cX2_lawRead 18 = .ok (.bipush 96, 2) := bdX2_lawRead_0 (18, .bipush 96, 2) (List.mem_of_getElem? (i := 10) rfl)
theorem dX2_lawRead_20 : decode cX2_lawRead 20 = .ok (.if_icmp .ge 18, 3) := bdX2_lawRead_0 (20, .if_icmp .ge 18, 3) (List.mem_of_getElem? (i := 11) rfl)
theorem dX2_lawRead_23 : decode cX2_lawRead 23 = .ok (.aload_n 1, 1) := bdX2_lawRead_0 (23, .aload_n 1, 1) (List.mem_of_getElem? (i := 12) rfl)
theorem dX2_lawRead_24 : decode cX2_lawRead 24 = .ok (.iload_n 2, 1) := bdX2_lawRead_0 (24, .iload_n 2, 1) (List.mem_of_getElem? (i := 13) rfl)
theorem dX2_lawRead_25 : decode cX2_lawRead 25 = .ok (.aload_n 0, 1) := bdX2_lawRead_0 (25, .aload_n 0, 1) (List.mem_of_getElem? (i := 14) rfl)
theorem dX2_lawRead_26 : decode cX2_lawRead 26 = .ok (.getfield 31, 3) := bdX2_lawRead_0 (26, .getfield 31, 3) (List.mem_of_getElem? (i := 15) rfl)
theorem dX2_lawRead_29 : decode cX2_lawRead 29 = .ok (.iload_n 2, 1) := bdX2_lawRead_0 (29, .iload_n 2, 1) (List.mem_of_getElem? (i := 16) rfl)
theorem dX2_lawRead_30 : decode cX2_lawRead 30 = .ok (.iaload, 1) := bdX2_lawRead_0 (30, .iaload, 1) (List.mem_of_getElem? (i := 17) rfl)
theorem dX2_lawRead_31 : decode cX2_lawRead 31 = .ok (.iastore, 1) := bdX2_lawRead_0 (31, .iastore, 1) (List.mem_of_getElem? (i := 18) rfl)
theorem dX2_lawRead_32 : decode cX2_lawRead 32 = .ok (.iinc 2 1, 3) := bdX2_lawRead_0 (32, .iinc 2 1, 3) (List.mem_of_getElem? (i := 19) rfl)
theorem dX2_lawRead_35 : decode cX2_lawRead 35 = .ok (.goto (-26), 3) := bdX2_lawRead_0 (35, .goto (-26), 3) (List.mem_of_getElem? (i := 20) rfl)
theorem dX2_lawRead_41 : decode cX2_lawRead 41 = .ok (.dup, 1) := bdX2_lawRead_0 (41, .dup, 1) (List.mem_of_getElem? (i := 21) rfl)
theorem dX2_lawRead_42 : decode cX2_lawRead 42 = .ok (.aload_n 0, 1) := bdX2_lawRead_0 (42, .aload_n 0, 1) (List.mem_of_getElem? (i := 22) rfl)
theorem dX2_lawRead_43 : decode cX2_lawRead 43 = .ok (.getfield 28, 3) := bdX2_lawRead_0 (43, .getfield 28, 3) (List.mem_of_getElem? (i := 23) rfl)
theorem dX2_lawRead_46 : decode cX2_lawRead 46 = .ok (.aload_n 0, 1) := bdX2_lawRead_0 (46, .aload_n 0, 1) (List.mem_of_getElem? (i := 24) rfl)
theorem dX2_lawRead_47 : decode cX2_lawRead 47 = .ok (.getfield 38, 3) := bdX2_lawRead_0 (47, .getfield 38, 3) (List.mem_of_getElem? (i := 25) rfl)
theorem dX2_lawRead_50 : decode cX2_lawRead 50 = .ok (.aload_n 1, 1) := bdX2_lawRead_0 (50, .aload_n 1, 1) (List.mem_of_getElem? (i := 26) rfl)
theorem dX2_lawRead_51 : decode cX2_lawRead 51 = .ok (.invokespecial 66, 3) := bdX2_lawRead_0 (51, .invokespecial 66, 3) (List.mem_of_getElem? (i := 27) rfl)
theorem budX2_lawRead_4 : ∀ q ∈ ([(4, .ok (.newarray .int, 2)), (38, .ok (.new 64, 3)), (54, .ok (.areturn, 1))] : List (Nat × Except Jvm.ClassFile.DecodeError (Jvm.ClassFile.Instr × Nat))), decode cX2_lawRead q.1 = q.2 := by decide +kernel
theorem dX2_lawRead_4 : decode cX2_lawRead 4 = .ok (.newarray .int, 2) := budX2_lawRead_4 (4, .ok (.newarray .int, 2)) (List.mem_of_getElem? (i := 0) rfl)
theorem dX2_lawRead_38 : decode cX2_lawRead 38 = .ok (.new 64, 3) := budX2_lawRead_4 (38, .ok (.new 64, 3)) (List.mem_of_getElem? (i := 1) rfl)
theorem dX2_lawRead_54 : decode cX2_lawRead 54 = .ok (.areturn, 1) := budX2_lawRead_4 (54, .ok (.areturn, 1)) (List.mem_of_getElem? (i := 2) rfl)
theorem nX2_64 : clsOK RX2 64 1 3 := ⟨_, _, tyX1, ⟨rfl, iX1, rfl, by decide⟩, tyX1_ok, by decide, tw_812, tw_813, tw_69⟩
theorem kX2_66 : mthI RX2 66 yX1_init prog_3_method_1_code 4 3 := ⟨⟨⟨tw_814, tw_69, tw_816⟩, rfl, by decide +kernel⟩, tw_815, rfl⟩
def BX2_lawRead_38 (post : Nat → Nat → (Nat → Nat) → HC → Prop) (M : Nat) (ln : Nat → Nat) (S : HC) (x0 : Nat) (x1 : Nat) : Prop := nw_ M 1 ln S fun N1 ln S => lt_ (hI S x0 4) fun z2 => lt_ (hI S x0 7) fun z3 => wpX1_init ln S M z2 z3 x1 fun S => post M N1 ln S
def LX2_lawRead_9 (post : Nat → Nat → (Nat → Nat) → HC → Prop) : Nat → Nat → (Nat → Nat) → HC → Nat → Nat → Int32 → Prop
  | 0 => fun _ _ _ _ _ _ => False
  | n9 + 1 => fun M ln S x0 x1 x2 => lt_ (hI S x0 6) fun z4 => if z4 ≤ x2 then (BX2_lawRead_38 post M ln S x0 x1) else (if (96 : Int32) ≤ x2 then (BX2_lawRead_38 post M ln S x0 x1) else (dn_ (hR S x0 5) fun b5 => al_ (ln b5) x2 (hI S b5) fun z6 => as_ (ln x1) x2 (fun j => sI S x1 j z6) fun S => lt_ (x2 + (1 : Int32)) fun z7 => (LX2_lawRead_9 post n9) M ln S x0 x1 z7))
def wpX2_lawRead (N : Nat) (ln : Nat → Nat) (S : HC) (a0 : Nat) (post : Nat → Nat → (Nat → Nat) → HC → Prop) : Prop := lt_ (hI S a0 6) fun z8 => na_ N 9 z8 96 ln S fun N9 ln S => ∃ n9, LX2_lawRead_9 post n9 N9 ln S a0 N (0 : Int32)
abbrev rmX2_lawRead : Room := { frames := 2, cells := 2, slots := 99, locals := 43 }
set_option maxHeartbeats 4000000 in
set_option maxRecDepth 100000 in
theorem ctX2_lawRead {l : Launch} {g : GX} {N : Nat} {ln : Nat → Nat} {S : HC} {a0 : Nat} {post : Nat → Nat → (Nat → Nat) → HC → Prop} (hr_a0 : a0 < N) (hk_a0 : kd a0 = 2) (h : wpX2_lawRead N ln S a0 post) : Met l yX2_lawRead (Cond.code yX2_lawRead prog_4_method_3_code 3 (Option.some (Jvm.ClassFile.FieldType.object "LionShield$Law")) :: gtbl) rmX2_lawRead (va_Pc [.ref (gz g + a0)] (AtP g N ln S)) (QXN g N 1 post) 2 99 (gF g) := by
  refine m_of (by decide) (Nat.le_of_ble_eq_true rfl) ?_
  intro p e s m below meth c ls F hr I hl
  have hl : lv_has ls 3 [(0, .ref (gz g + a0))] := hl
  unfold wpX2_lawRead at h
  have hN := Nat.le_refl N
  have hj_38 : ∀ (M : Nat) (ln : Nat → Nat) (S : HC) (H : Heap) (locs : List Loc) (ls : Array Slot) (x0 : Nat) (x1 : Nat), N ≤ M → x0 < M → kd x0 = 2 → x1 < M → kd x1 = 9 → BX2_lawRead_38 post M ln S x0 x1 → Inv g M ln S s H locs → lv_has ls 3 [(0, .ref (gz g + x0)), (1, .ref (gz g + x1))] → W p l e rmX2_lawRead s m ([.ref (gz g + a0)] : List Value).toArray below meth c H locs 1 96 (MQ below (QXN g N 1 post) ([.ref (gz g + a0)] : List Value).toArray s 2 99 (gF g)) (F0 m 38 ls []) := by
    intro M ln S H locs ls x0 x1 hN hr_x0 hk_x0 hr_x1 hk_x1 h I hl
    unfold BX2_lawRead_38 at h
    refine r_new F I nX2_64 h ⟨Nat.le_of_ble_eq_true rfl, Nat.le_of_ble_eq_true rfl⟩ dX2_lawRead_38 (fun N1 ln S H hr_M hk_M I h => ?_)
    have hr_x0 := Nat.lt_of_lt_of_le hr_x0 (Nat.le_of_lt hr_M)
    have hr_x1 := Nat.lt_of_lt_of_le hr_x1 (Nat.le_of_lt hr_M)
    have hN := Nat.le_trans hN (Nat.le_of_lt hr_M)
    refine lv_dup F.1 F.2.1 dX2_lawRead_41 rfl ?_
    refine lv_aload_n F.1 F.2.1 dX2_lawRead_42 rfl (lv_at hl 0 rfl) ?_
    refine r_getI F I hr_x0 hk_x0 fX2_28 rfl dX2_lawRead_43 h (fun z2 h => ?_)
    refine lv_aload_n F.1 F.2.1 dX2_lawRead_46 rfl (lv_at hl 0 rfl) ?_
    refine r_getI F I hr_x0 hk_x0 fX2_38 rfl dX2_lawRead_47 h (fun z3 h => ?_)
    refine lv_aload_n F.1 F.2.1 dX2_lawRead_50 rfl (lv_at hl 1 rfl) ?_
    refine g_V I (run_I (As := [.int z2, .int z3, .ref (gz g + x1)]) (rest := [.ref (gz g + M)]) F I kX2_66 (ctX1_init hr_M hk_M hr_x1 hk_x1 h) ⟨rfl, rfl⟩ ⟨Nat.le_of_ble_eq_true rfl, Nat.le_of_ble_eq_true rfl⟩ rfl hl.1 rfl (Nat.le_of_ble_eq_true rfl) ⟨Nat.le_of_ble_eq_true rfl, Nat.le_of_ble_eq_true rfl⟩ dX2_lawRead_51) (fun S H locs I h => ?_)
    refine W.widen (k := 2) (n := 99) (Nat.le_of_ble_eq_true rfl) (Nat.le_of_ble_eq_true rfl) ?_
    exact r_areturnX F I ⟨hr.1, hr.2.1, trivial⟩ hN hr_M hk_M h dX2_lawRead_54
  have hl_9 : ∀ n9 : Nat, ∀ (M : Nat) (ln : Nat → Nat) (S : HC) (H : Heap) (locs : List Loc) (ls : Array Slot) (x0 : Nat) (x1 : Nat) (x2 : Int32), N ≤ M → x0 < M → kd x0 = 2 → x1 < M → kd x1 = 9 → LX2_lawRead_9 post n9 M ln S x0 x1 x2 → Inv g M ln S s H locs → lv_has ls 3 [(0, .ref (gz g + x0)), (1, .ref (gz g + x1)), (2, .int x2)] → W p l e rmX2_lawRead s m ([.ref (gz g + a0)] : List Value).toArray below meth c H locs 1 96 (MQ below (QXN g N 1 post) ([.ref (gz g + a0)] : List Value).toArray s 2 99 (gF g)) (F0 m 9 ls []) := by
    intro n9
    induction n9 with
    | zero =>
      intro M ln S H locs ls x0 x1 x2 hN hr_x0 hk_x0 hr_x1 hk_x1 h I hl
      exact h.elim
    | succ n9 ih =>
      have hk9 := ih
      intro M ln S H locs ls x0 x1 x2 hN hr_x0 hk_x0 hr_x1 hk_x1 h I hl
      rw [LX2_lawRead_9] at h
      refine lv_iload_n F.1 F.2.1 dX2_lawRead_9 rfl (lv_at hl 2 rfl) ?_
      refine lv_aload_n F.1 F.2.1 dX2_lawRead_10 rfl (lv_at hl 0 rfl) ?_
      refine r_getI F I hr_x0 hk_x0 fX2_35 rfl dX2_lawRead_11 h (fun z4 h => ?_)
      refine r_icmp_ge (tgt := 38) F dX2_lawRead_14 (by decide) h (fun h => ?_) (fun h => ?_)
      · exact hj_38 M ln S _ _ _ x0 x1 hN hr_x0 hk_x0 hr_x1 hk_x1 h I (lv_sub hl [0, 1] rfl)
      · refine lv_iload_n F.1 F.2.1 dX2_lawRead_17 rfl (lv_at hl 2 rfl) ?_
        refine lv_bipush (v := 96) F.1 F.2.1 dX2_lawRead_18 (by decide) ?_
        refine r_icmp_ge (tgt := 38) F dX2_lawRead_20 (by decide) h (fun h => ?_) (fun h => ?_)
        · exact hj_38 M ln S _ _ _ x0 x1 hN hr_x0 hk_x0 hr_x1 hk_x1 h I (lv_sub hl [0, 1] rfl)
        · refine lv_aload_n F.1 F.2.1 dX2_lawRead_23 rfl (lv_at hl 1 rfl) ?_
          refine lv_iload_n F.1 F.2.1 dX2_lawRead_24 rfl (lv_at hl 2 rfl) ?_
          refine lv_aload_n F.1 F.2.1 dX2_lawRead_25 rfl (lv_at hl 0 rfl) ?_
          refine r_getN F I hr_x0 hk_x0 fX2_31 (f := 9) rfl (by decide) dX2_lawRead_26 h (fun b5 hr_b5 hk_b5 h => ?_)
          refine lv_iload_n F.1 F.2.1 dX2_lawRead_29 rfl (lv_at hl 2 rfl) ?_
          refine r_ald F I hr_b5 hk_b5 dX2_lawRead_30 h (fun z6 h => ?_)
          refine r_ast F I hr_x1 hk_x1 dX2_lawRead_31 h (fun S H locs I h => ?_)
          obtain ⟨z7, e_z7, h⟩ := lt_x h
          refine lv_iinc (v := z7) (lv' := [(2, .int z7), (0, .ref (gz g + x0)), (1, .ref (gz g + x1))]) F.1 F.2.1 dX2_lawRead_32 hl (k := 2) rfl (by rw [e_z7]; rfl) (by decide) rfl (fun ls hl => ?_)
          refine lv_goto (tgt := 9) F.1 F.2.1 dX2_lawRead_35 (by decide) ?_
          exact hk9 M ln S _ _ _ x0 x1 z7 hN hr_x0 hk_x0 hr_x1 hk_x1 h I (lv_sub hl [1, 2, 0] rfl)
  refine lv_aload_n F.1 F.2.1 dX2_lawRead_0 rfl (lv_at hl 0 rfl) ?_
  refine r_getI F I hr_a0 hk_a0 fX2_35 rfl dX2_lawRead_1 h (fun z8 h => ?_)
  refine r_newa (B := 96) F I h tw_148 ⟨Nat.le_of_ble_eq_true rfl, Nat.le_of_ble_eq_true rfl⟩ (Nat.le_of_ble_eq_true rfl) dX2_lawRead_4 (fun N9 ln S H hr_N hk_N I h => ?_)
  have hr_a0 := Nat.lt_of_lt_of_le hr_a0 (Nat.le_of_lt hr_N)
  have hN := Nat.le_trans hN (Nat.le_of_lt hr_N)
  refine lv_astore_n (lv' := [(1, .ref (gz g + N)), (0, .ref (gz g + a0))]) F.1 F.2.1 dX2_lawRead_6 rfl hl (by decide) rfl (fun ls hl => ?_)
  refine lv_iconst (v := 0) F.1 F.2.1 dX2_lawRead_7 (by decide) ?_
  refine lv_istore_n (lv' := [(2, .int (0 : Int32)), (1, .ref (gz g + N)), (0, .ref (gz g + a0))]) F.1 F.2.1 dX2_lawRead_8 rfl hl (by decide) rfl (fun ls hl => ?_)
  obtain ⟨n9, h⟩ := h
  exact hl_9 n9 N9 ln S _ _ _ a0 N (0 : Int32) hN hr_a0 hk_a0 hr_N hk_N h I (lv_sub hl [2, 1, 0] rfl)
theorem bdX7_text_0 : ∀ q ∈ ([(0, .aload_n 0, 1), (1, .getfield 36, 3), (4, .invokevirtual 233, 3), (7, .aload_n 0, 1), (8, .getfield 36, 3), (11, .getfield 221, 3), (14, .iconst 0, 1), (15, .putfield 225, 3), (18, .aload_n 0, 1), (19, .getfield 36, 3), (22, .getfield 236, 3), (25, .ifCond .lt 14, 3), (28, .bipush (-100), 2), (30, .aload_n 0, 1), (31, .getfield 36, 3), (34, .getfield 236, 3), (37, .isub, 1), (38, .ireturn, 1), (39, .aload_n 0, 1), (40, .getfield 10, 3), (43, .getfield 239, 3), (46, .ifCond .lt 15, 3), (49, .aload_n 0, 1), (50, .getfield 10, 3), (53, .getfield 239, 3), (56, .bipush 14, 2), (58, .if_icmp .lt 6, 3), (61, .ldc 81, 2), (63, .ireturn, 1), (64, .aload_n 0, 1), (65, .getfield 10, 3), (68, .getfield 239, 3), (71, .istore_n 1, 1), (72, .aload_n 0, 1), (73, .getfield 10, 3), (76, .getfield 242, 3), (79, .iload_n 1, 1), (80, .aload_n 0, 1), (81, .getfield 36, 3), (84, .invokevirtual 246, 3)] : List (Nat × Jvm.ClassFile.Instr × Nat)), decode cX7_text q.1 = .ok q.2 := chk_ok _ 0 _ rfl (by decide +kernel)
theorem dX7_text_0 : decode cX7_text 0 = .ok (.aload_n 0, 1) := bdX7_text_0 (0, .aload_n 0, 1) (List.mem_of_getElem? (i := 0) rfl)
theorem dX7_text_1 : decode cX7_text 1 = .ok (.getfield 36, 3) := bdX7_text_0 (1, .getfield 36, 3) (List.mem_of_getElem? (i := 1) rfl)
theorem dX7_text_4 : decode cX7_text 4 = .ok (.invokevirtual 233, 3) := bdX7_text_0 (4, .invokevirtual 233, 3) (List.mem_of_getElem? (i := 2) rfl)
theorem dX7_text_7 : decode cX7_text 7 = .ok (.aload_n 0, 1) := bdX7_text_0 (7, .aload_n 0, 1) (List.mem_of_getElem? (i := 3) rfl)
theorem dX7_text_8 : decode cX7_text 8 = .ok (.getfield 36, 3) := bdX7_text_0 (8, .getfield 36, 3) (List.mem_of_getElem? (i := 4) rfl)
theorem dX7_text_11 : decode cX7_text 11 = .ok (.getfield 221, 3) := bdX7_text_0 (11, .getfield 221, 3) (List.mem_of_getElem? (i := 5) rfl)
theorem dX7_text_14 : decode cX7_text 14 = .ok (.iconst 0, 1) := bdX7_text_0 (14, .iconst 0, 1) (List.mem_of_getElem? (i := 6) rfl)
theorem dX7_text_15 : decode cX7_text 15 = .ok (.putfield 225, 3) := bdX7_text_0 (15, .putfield 225, 3) (List.mem_of_getElem? (i := 7) rfl)
theorem dX7_text_18 : decode cX7_text 18 = .ok (.aload_n 0, 1) := bdX7_text_0 (18, .aload_n 0, 1) (List.mem_of_getElem? (i := 8) rfl)
theorem dX7_text_19 : decode cX7_text 19 = .ok (.getfield 36, 3) := bdX7_text_0 (19, .getfield 36, 3) (List.mem_of_getElem? (i := 9) rfl)
theorem dX7_text_22 : decode cX7_text 22 = .ok (.getfield 236, 3) := bdX7_text_0 (22, .getfield 236, 3) (List.mem_of_getElem? (i := 10) rfl)
theorem dX7_text_25 : decode cX7_text 25 = .ok (.ifCond .lt 14, 3) := bdX7_text_0 (25, .ifCond .lt 14, 3) (List.mem_of_getElem? (i := 11) rfl)
theorem dX7_text_28 : decode cX7_text 28 = .ok (.bipush (-100), 2) := bdX7_text_0 (28, .bipush (-100), 2) (List.mem_of_getElem? (i := 12) rfl)
theorem dX7_text_30 : decode cX7_text 30 = .ok (.aload_n 0, 1) := bdX7_text_0 (30, .aload_n 0, 1) (List.mem_of_getElem? (i := 13) rfl)
theorem dX7_text_31 : decode cX7_text 31 = .ok (.getfield 36, 3) := bdX7_text_0 (31, .getfield 36, 3) (List.mem_of_getElem? (i := 14) rfl)
theorem dX7_text_34 : decode cX7_text 34 = .ok (.getfield 236, 3) := bdX7_text_0 (34, .getfield 236, 3) (List.mem_of_getElem? (i := 15) rfl)
theorem dX7_text_37 : decode cX7_text 37 = .ok (.isub, 1) := bdX7_text_0 (37, .isub, 1) (List.mem_of_getElem? (i := 16) rfl)
theorem dX7_text_38 : decode cX7_text 38 = .ok (.ireturn, 1) := bdX7_text_0 (38, .ireturn, 1) (List.mem_of_getElem? (i := 17) rfl)
theorem dX7_text_39 : decode cX7_text 39 = .ok (.aload_n 0, 1) := bdX7_text_0 (39, .aload_n 0, 1) (List.mem_of_getElem? (i := 18) rfl)
theorem dX7_text_40 : decode cX7_text 40 = .ok (.getfield 10, 3) := bdX7_text_0 (40, .getfield 10, 3) (List.mem_of_getElem? (i := 19) rfl)
theorem dX7_text_43 : decode cX7_text 43 = .ok (.getfield 239, 3) := bdX7_text_0 (43, .getfield 239, 3) (List.mem_of_getElem? (i := 20) rfl)
theorem dX7_text_46 : decode cX7_text 46 = .ok (.ifCond .lt 15, 3) := bdX7_text_0 (46, .ifCond .lt 15, 3) (List.mem_of_getElem? (i := 21) rfl)
theorem dX7_text_49 : decode cX7_text 49 = .ok (.aload_n 0, 1) := bdX7_text_0 (49, .aload_n 0, 1) (List.mem_of_getElem? (i := 22) rfl)
theorem dX7_text_50 : decode cX7_text 50 = .ok (.getfield 10, 3) := bdX7_text_0 (50, .getfield 10, 3) (List.mem_of_getElem? (i := 23) rfl)
theorem dX7_text_53 : decode cX7_text 53 = .ok (.getfield 239, 3) := bdX7_text_0 (53, .getfield 239, 3) (List.mem_of_getElem? (i := 24) rfl)
theorem dX7_text_56 : decode cX7_text 56 = .ok (.bipush 14, 2) := bdX7_text_0 (56, .bipush 14, 2) (List.mem_of_getElem? (i := 25) rfl)
theorem dX7_text_58 : decode cX7_text 58 = .ok (.if_icmp .lt 6, 3) := bdX7_text_0 (58, .if_icmp .lt 6, 3) (List.mem_of_getElem? (i := 26) rfl)
theorem dX7_text_61 : decode cX7_text 61 = .ok (.ldc 81, 2) := bdX7_text_0 (61, .ldc 81, 2) (List.mem_of_getElem? (i := 27) rfl)
theorem dX7_text_63 : decode cX7_text 63 = .ok (.ireturn, 1) := bdX7_text_0 (63, .ireturn, 1) (List.mem_of_getElem? (i := 28) rfl)
theorem dX7_text_64 : decode cX7_text 64 = .ok (.aload_n 0, 1) := bdX7_text_0 (64, .aload_n 0, 1) (List.mem_of_getElem? (i := 29) rfl)
theorem dX7_text_65 : decode cX7_text 65 = .ok (.getfield 10, 3) := bdX7_text_0 (65, .getfield 10, 3) (List.mem_of_getElem? (i := 30) rfl)
theorem dX7_text_68 : decode cX7_text 68 = .ok (.getfield 239, 3) := bdX7_text_0 (68, .getfield 239, 3) (List.mem_of_getElem? (i := 31) rfl)
theorem dX7_text_71 : decode cX7_text 71 = .ok (.istore_n 1, 1) := bdX7_text_0 (71, .istore_n 1, 1) (List.mem_of_getElem? (i := 32) rfl)
theorem dX7_text_72 : decode cX7_text 72 = .ok (.aload_n 0, 1) := bdX7_text_0 (72, .aload_n 0, 1) (List.mem_of_getElem? (i := 33) rfl)
theorem dX7_text_73 : decode cX7_text 73 = .ok (.getfield 10, 3) := bdX7_text_0 (73, .getfield 10, 3) (List.mem_of_getElem? (i := 34) rfl)
theorem dX7_text_76 : decode cX7_text 76 = .ok (.getfield 242, 3) := bdX7_text_0 (76, .getfield 242, 3) (List.mem_of_getElem? (i := 35) rfl)
theorem dX7_text_79 : decode cX7_text 79 = .ok (.iload_n 1, 1) := bdX7_text_0 (79, .iload_n 1, 1) (List.mem_of_getElem? (i := 36) rfl)
theorem dX7_text_80 : decode cX7_text 80 = .ok (.aload_n 0, 1) := bdX7_text_0 (80, .aload_n 0, 1) (List.mem_of_getElem? (i := 37) rfl)
theorem dX7_text_81 : decode cX7_text 81 = .ok (.getfield 36, 3) := bdX7_text_0 (81, .getfield 36, 3) (List.mem_of_getElem? (i := 38) rfl)
theorem dX7_text_84 : decode cX7_text 84 = .ok (.invokevirtual 246, 3) := bdX7_text_0 (84, .invokevirtual 246, 3) (List.mem_of_getElem? (i := 39) rfl)
theorem bdX7_text_88 : ∀ q ∈ ([(88, .aload_n 0, 1), (89, .getfield 10, 3), (92, .iload_n 1, 1), (93, .iconst 1, 1), (94, .iadd, 1), (95, .putfield 239, 3), (98, .iload_n 1, 1), (99, .ireturn, 1)] : List (Nat × Jvm.ClassFile.Instr × Nat)), decode cX7_text q.1 = .ok q.2 := chk_ok _ 88 _ rfl (by decide +kernel)
theorem dX7_text_88 : decode cX7_text 88 = .ok (.aload_n 0, 1) := bdX7_text_88 (88, .aload_n 0, 1) (List.mem_of_getElem? (i := 0) rfl)
theorem dX7_text_89 : decode cX7_text 89 = .ok (.getfield 10, 3) := bdX7_text_88 (89, .getfield 10, 3) (List.mem_of_getElem? (i := 1) rfl)
theorem dX7_text_92 : decode cX7_text 92 = .ok (.iload_n 1, 1) := bdX7_text_88 (92, .iload_n 1, 1) (List.mem_of_getElem? (i := 2) rfl)
theorem dX7_text_93 : decode cX7_text 93 = .ok (.iconst 1, 1) := bdX7_text_88 (93, .iconst 1, 1) (List.mem_of_getElem? (i := 3) rfl)
theorem dX7_text_94 : decode cX7_text 94 = .ok (.iadd, 1) := bdX7_text_88 (94, .iadd, 1) (List.mem_of_getElem? (i := 4) rfl)
theorem dX7_text_95 : decode cX7_text 95 = .ok (.putfield 239, 3) := bdX7_text_88 (95, .putfield 239, 3) (List.mem_of_getElem? (i := 5) rfl)
theorem dX7_text_98 : decode cX7_text 98 = .ok (.iload_n 1, 1) := bdX7_text_88 (98, .iload_n 1, 1) (List.mem_of_getElem? (i := 6) rfl)
theorem dX7_text_99 : decode cX7_text 99 = .ok (.ireturn, 1) := bdX7_text_88 (99, .ireturn, 1) (List.mem_of_getElem? (i := 7) rfl)
theorem dX7_text_87 : decode cX7_text 87 = .ok (.aastore, 1) := by decide +kernel
theorem kX7_233 : mthV RX7 233 2 yX2_readTape prog_4_method_2_code 1 (Option.none : Option Jvm.ClassFile.FieldType) 0 := ⟨⟨⟨tw_636, tw_63, tw_639⟩, rfl, by decide +kernel⟩, tw_637, tw_638, rfl⟩
theorem fX7_236 : fldOK RX7 236 2 10 .int false := ⟨_, _, _, tyX2, ⟨rfl, iX2, by decide, rfl, by decide⟩, tw_210, ⟨tyX2_ok, nmX2⟩, by decide +kernel, rfl, rfl⟩
theorem kX7_246 : mthV RX7 246 2 yX2_lawRead prog_4_method_3_code 3 (Option.some (Jvm.ClassFile.FieldType.object "LionShield$Law")) 0 := ⟨⟨⟨tw_808, tw_63, tw_811⟩, rfl, by decide +kernel⟩, tw_809, tw_810, rfl⟩
def BX7_text_61 (post : Int32 → Nat → (Nat → Nat) → HC → Prop) (M : Nat) (ln : Nat → Nat) (S : HC)  : Prop := post (-1000000003 : Int32) M ln S
def wpX7_text (N : Nat) (ln : Nat → Nat) (S : HC) (a0 : Nat) (post : Int32 → Nat → (Nat → Nat) → HC → Prop) : Prop := dn_ (hR S a0 5) fun b1 => wpX2_readTape ln S b1 fun S => dn_ (hR S a0 5) fun b2 => dn_ (hR S b2 0) fun b3 => lt_ (sI S b3 1 (0 : Int32)) fun S => dn_ (hR S a0 5) fun b4 => lt_ (hI S b4 10) fun z5 => if z5 < 0 then (dn_ (hR S a0 0) fun b6 => lt_ (hI S b6 11) fun z7 => if z7 < 0 then (BX7_text_61 post N ln S) else (dn_ (hR S a0 0) fun b8 => lt_ (hI S b8 11) fun z9 => if z9 < (14 : Int32) then (dn_ (hR S a0 0) fun b10 => lt_ (hI S b10 11) fun z11 => dn_ (hR S a0 0) fun b12 => dn_ (hR S b12 10) fun b13 => dn_ (hR S a0 5) fun b14 => wpX2_lawRead N ln S b14 fun b16 N15 ln S => as_ (ln b13) z11 (fun j => sR S b13 j (some b16)) fun S => dn_ (hR S a0 0) fun b17 => lt_ (z11 + (1 : Int32)) fun z18 => lt_ (sI S b17 11 z18) fun S => post z11 N15 ln S) else (BX7_text_61 post N ln S))) else (dn_ (hR S a0 5) fun b19 => lt_ (hI S b19 10) fun z20 => lt_ ((-100 : Int32) - z20) fun z21 => post z21 N ln S)
abbrev rmX7_text : Room := { frames := 102, cells := 2, slots := 99, locals := 2644 }
set_option maxHeartbeats 4000000 in
set_option maxRecDepth 100000 in
theorem ctX7_text {l : Launch} {g : GX} {N : Nat} {ln : Nat → Nat} {S : HC} {a0 : Nat} {post : Int32 → Nat → (Nat → Nat) → HC → Prop} (hr_a0 : a0 < N) (hk_a0 : kd a0 = 7) (h : wpX7_text N ln S a0 post) : Met l yX7_text (Cond.code yX7_text prog_1_method_26_code 2 (Option.some Jvm.ClassFile.FieldType.int) :: gtbl) rmX7_text (va_Pc [.ref (gz g + a0)] (AtP g N ln S)) (QXI g N post) 2 99 (gF g) := by
  refine m_of (by decide) (Nat.le_of_ble_eq_true rfl) ?_
  intro p e s m below meth c ls F hr I hl
  have hl : lv_has ls 2 [(0, .ref (gz g + a0))] := hl
  unfold wpX7_text at h
  have hN := Nat.le_refl N
  have hj_61 : ∀ (M : Nat) (ln : Nat → Nat) (S : HC) (H : Heap) (locs : List Loc) (ls : Array Slot), N ≤ M → BX7_text_61 post M ln S  → Inv g M ln S s H locs → lv_has ls 2 [] → W p l e rmX7_text s m ([.ref (gz g + a0)] : List Value).toArray below meth c H locs 0 0 (MQ below (QXI g N post) ([.ref (gz g + a0)] : List Value).toArray s 2 99 (gF g)) (F0 m 61 ls []) := by
    intro M ln S H locs ls hN h I hl
    unfold BX7_text_61 at h
    refine lv_ldc F.1 F.2.1 F.2.2.2.1 (F.2.2.2.2 _ tw_342) dX7_text_61 ?_
    refine W.widen (k := 2) (n := 99) (Nat.le_of_ble_eq_true rfl) (Nat.le_of_ble_eq_true rfl) ?_
    exact r_ireturnX F I ⟨hr.1, hr.2.1, trivial⟩ hN h dX7_text_63
  refine lv_aload_n F.1 F.2.1 dX7_text_0 rfl (lv_at hl 0 rfl) ?_
  refine r_getN F I hr_a0 hk_a0 fX7_36 (f := 2) rfl (by decide) dX7_text_1 h (fun b1 hr_b1 hk_b1 h => ?_)
  refine g_V I (run_V (As := []) (rest := []) F I hr_b1 hk_b1 (by decide) kX7_233 (ctX2_readTape hr_b1 hk_b1 h) ⟨rfl, rfl⟩ ⟨Nat.le_of_ble_eq_true rfl, Nat.le_of_ble_eq_true rfl⟩ rfl hl.1 rfl (Nat.le_of_ble_eq_true rfl) ⟨Nat.le_of_ble_eq_true rfl, Nat.le_of_ble_eq_true rfl⟩ dX7_text_4) (fun S H locs I h => ?_)
  refine lv_aload_n F.1 F.2.1 dX7_text_7 rfl (lv_at hl 0 rfl) ?_
  refine r_getN F I hr_a0 hk_a0 fX7_36 (f := 2) rfl (by decide) dX7_text_8 h (fun b2 hr_b2 hk_b2 h => ?_)
  refine r_getN F I hr_b2 hk_b2 fX7_221 (f := 6) rfl (by decide) dX7_text_11 h (fun b3 hr_b3 hk_b3 h => ?_)
  refine lv_iconst (v := 0) F.1 F.2.1 dX7_text_14 (by decide) ?_
  refine r_putI F I hr_b3 hk_b3 fX7_225 rfl (Or.inl rfl) ⟨rfl, rfl⟩ dX7_text_15 h (fun S H locs I h => ?_)
  refine lv_aload_n F.1 F.2.1 dX7_text_18 rfl (lv_at hl 0 rfl) ?_
  refine r_getN F I hr_a0 hk_a0 fX7_36 (f := 2) rfl (by decide) dX7_text_19 h (fun b4 hr_b4 hk_b4 h => ?_)
  refine r_getI F I hr_b4 hk_b4 fX7_236 rfl dX7_text_22 h (fun z5 h => ?_)
  refine r_if_lt (tgt := 39) F dX7_text_25 (by decide) h (fun h => ?_) (fun h => ?_)
  · refine lv_aload_n F.1 F.2.1 dX7_text_39 rfl (lv_at hl 0 rfl) ?_
    refine r_getN F I hr_a0 hk_a0 fX7_10 (f := 0) rfl (by decide) dX7_text_40 h (fun b6 hr_b6 hk_b6 h => ?_)
    refine r_getI F I hr_b6 hk_b6 fX7_239 rfl dX7_text_43 h (fun z7 h => ?_)
    refine r_if_lt (tgt := 61) F dX7_text_46 (by decide) h (fun h => ?_) (fun h => ?_)
    · exact hj_61 N ln S _ _ _  hN  h I (lv_sub hl [] rfl)
    · refine lv_aload_n F.1 F.2.1 dX7_text_49 rfl (lv_at hl 0 rfl) ?_
      refine r_getN F I hr_a0 hk_a0 fX7_10 (f := 0) rfl (by decide) dX7_text_50 h (fun b8 hr_b8 hk_b8 h => ?_)
      refine r_getI F I hr_b8 hk_b8 fX7_239 rfl dX7_text_53 h (fun z9 h => ?_)
      refine lv_bipush (v := 14) F.1 F.2.1 dX7_text_56 (by decide) ?_
      refine r_icmp_lt (tgt := 64) F dX7_text_58 (by decide) h (fun h => ?_) (fun h => ?_)
      · refine lv_aload_n F.1 F.2.1 dX7_text_64 rfl (lv_at hl 0 rfl) ?_
        refine r_getN F I hr_a0 hk_a0 fX7_10 (f := 0) rfl (by decide) dX7_text_65 h (fun b10 hr_b10 hk_b10 h => ?_)
        refine r_getI F I hr_b10 hk_b10 fX7_239 rfl dX7_text_68 h (fun z11 h => ?_)
        refine lv_istore_n (lv' := [(1, .int z11), (0, .ref (gz g + a0))]) F.1 F.2.1 dX7_text_71 rfl hl (by decide) rfl (fun ls hl => ?_)
        refine lv_aload_n F.1 F.2.1 dX7_text_72 rfl (lv_at hl 1 rfl) ?_
        refine r_getN F I hr_a0 hk_a0 fX7_10 (f := 0) rfl (by decide) dX7_text_73 h (fun b12 hr_b12 hk_b12 h => ?_)
        refine r_getN F I hr_b12 hk_b12 fX7_242 (f := 13) rfl (by decide) dX7_text_76 h (fun b13 hr_b13 hk_b13 h => ?_)
        refine lv_iload_n F.1 F.2.1 dX7_text_79 rfl (lv_at hl 0 rfl) ?_
        refine lv_aload_n F.1 F.2.1 dX7_text_80 rfl (lv_at hl 1 rfl) ?_
        refine r_getN F I hr_a0 hk_a0 fX7_36 (f := 2) rfl (by decide) dX7_text_81 h (fun b14 hr_b14 hk_b14 h => ?_)
        refine g_XN I (run_V (As := []) (rest := [.int z11, .ref (gz g + b13)]) F I hr_b14 hk_b14 (by decide) kX7_246 (ctX2_lawRead hr_b14 hk_b14 h) ⟨rfl, rfl⟩ ⟨Nat.le_of_ble_eq_true rfl, Nat.le_of_ble_eq_true rfl⟩ rfl hl.1 rfl (Nat.le_of_ble_eq_true rfl) ⟨Nat.le_of_ble_eq_true rfl, Nat.le_of_ble_eq_true rfl⟩ dX7_text_84) (fun b16 N15 ln S H locs hr_b16 hk_b16 hNN I h => ?_)
        have hr_a0 := Nat.lt_of_lt_of_le hr_a0 hNN
        have hr_b13 := Nat.lt_of_lt_of_le hr_b13 hNN
        have hN := Nat.le_trans hN hNN
        refine r_astN F I hr_b13 hk_b13 (by decide) (f := 1) rfl hr_b16 hk_b16 dX7_text_87 h (fun S H locs I h => ?_)
        refine lv_aload_n F.1 F.2.1 dX7_text_88 rfl (lv_at hl 1 rfl) ?_
        refine r_getN F I hr_a0 hk_a0 fX7_10 (f := 0) rfl (by decide) dX7_text_89 h (fun b17 hr_b17 hk_b17 h => ?_)
        refine lv_iload_n F.1 F.2.1 dX7_text_92 rfl (lv_at hl 0 rfl) ?_
        refine lv_iconst (v := 1) F.1 F.2.1 dX7_text_93 (by decide) ?_
        refine r_iadd F dX7_text_94 h (fun z18 h => ?_)
        refine r_putI F I hr_b17 hk_b17 fX7_239 rfl (Or.inl rfl) ⟨rfl, rfl⟩ dX7_text_95 h (fun S H locs I h => ?_)
        refine lv_iload_n F.1 F.2.1 dX7_text_98 rfl (lv_at hl 0 rfl) ?_
        refine W.widen (k := 2) (n := 99) (Nat.le_of_ble_eq_true rfl) (Nat.le_of_ble_eq_true rfl) ?_
        exact r_ireturnX F I ⟨hr.1, hr.2.1, trivial⟩ hN h dX7_text_99
      · exact hj_61 N ln S _ _ _  hN  h I (lv_sub hl [] rfl)
  · refine lv_bipush (v := -100) F.1 F.2.1 dX7_text_28 (by decide) ?_
    refine lv_aload_n F.1 F.2.1 dX7_text_30 rfl (lv_at hl 0 rfl) ?_
    refine r_getN F I hr_a0 hk_a0 fX7_36 (f := 2) rfl (by decide) dX7_text_31 h (fun b19 hr_b19 hk_b19 h => ?_)
    refine r_getI F I hr_b19 hk_b19 fX7_236 rfl dX7_text_34 h (fun z20 h => ?_)
    refine r_isub F dX7_text_37 h (fun z21 h => ?_)
    refine W.widen (k := 2) (n := 99) (Nat.le_of_ble_eq_true rfl) (Nat.le_of_ble_eq_true rfl) ?_
    exact r_ireturnX F I ⟨hr.1, hr.2.1, trivial⟩ hN h dX7_text_38
