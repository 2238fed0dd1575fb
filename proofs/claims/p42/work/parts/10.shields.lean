theorem bdX7_isKind_0 : ∀ q ∈ ([(0, .iload_n 0, 1), (1, .ifCond .lt 13, 3), (4, .iload_n 0, 1), (5, .bipush 6, 2), (7, .if_icmp .ge 7, 3), (10, .iconst 1, 1), (11, .goto 4, 3), (14, .iconst 0, 1), (15, .ireturn, 1)] : List (Nat × Jvm.ClassFile.Instr × Nat)), decode cX7_isKind q.1 = .ok q.2 := chk_ok _ 0 _ rfl (by decide +kernel)
theorem dX7_isKind_0 : decode cX7_isKind 0 = .ok (.iload_n 0, 1) := bdX7_isKind_0 (0, .iload_n 0, 1) (List.mem_of_getElem? (i := 0) rfl)
theorem dX7_isKind_1 : decode cX7_isKind 1 = .ok (.ifCond .lt 13, 3) := bdX7_isKind_0 (1, .ifCond .lt 13, 3) (List.mem_of_getElem? (i := 1) rfl)
theorem dX7_isKind_4 : decode cX7_isKind 4 = .ok (.iload_n 0, 1) := bdX7_isKind_0 (4, .iload_n 0, 1) (List.mem_of_getElem? (i := 2) rfl)
theorem dX7_isKind_5 : decode cX7_isKind 5 = .ok (.bipush 6, 2) := bdX7_isKind_0 (5, .bipush 6, 2) (List.mem_of_getElem? (i := 3) rfl)
theorem dX7_isKind_7 : decode cX7_isKind 7 = .ok (.if_icmp .ge 7, 3) := bdX7_isKind_0 (7, .if_icmp .ge 7, 3) (List.mem_of_getElem? (i := 4) rfl)
theorem dX7_isKind_10 : decode cX7_isKind 10 = .ok (.iconst 1, 1) := bdX7_isKind_0 (10, .iconst 1, 1) (List.mem_of_getElem? (i := 5) rfl)
theorem dX7_isKind_11 : decode cX7_isKind 11 = .ok (.goto 4, 3) := bdX7_isKind_0 (11, .goto 4, 3) (List.mem_of_getElem? (i := 6) rfl)
theorem dX7_isKind_14 : decode cX7_isKind 14 = .ok (.iconst 0, 1) := bdX7_isKind_0 (14, .iconst 0, 1) (List.mem_of_getElem? (i := 7) rfl)
theorem dX7_isKind_15 : decode cX7_isKind 15 = .ok (.ireturn, 1) := bdX7_isKind_0 (15, .ireturn, 1) (List.mem_of_getElem? (i := 8) rfl)
def BX7_isKind_14 (ln : Nat → Nat) (post : Int32 → HC → Prop) (S : HC)  : Prop := rb_ .boolean (0 : Int32) (post (0 : Int32) S)
def wpX7_isKind (ln : Nat → Nat) (S : HC) (a0 : Int32) (post : Int32 → HC → Prop) : Prop := if a0 < 0 then (BX7_isKind_14 ln post S) else (if (6 : Int32) ≤ a0 then (BX7_isKind_14 ln post S) else (rb_ .boolean (1 : Int32) (post (1 : Int32) S)))
abbrev rmX7_isKind : Room := { frames := 0, cells := 0, slots := 0, locals := 0 }
set_option maxHeartbeats 4000000 in
set_option maxRecDepth 100000 in
theorem ctX7_isKind {l : Launch} {g : GX} {N : Nat} {ln : Nat → Nat} {S : HC} {a0 : Int32} {post : Int32 → HC → Prop} (h : wpX7_isKind ln S a0 post) : Met l yX7_isKind (Cond.code yX7_isKind prog_1_method_47_code 1 (Option.some Jvm.ClassFile.FieldType.boolean) :: gtbl) rmX7_isKind (va_Pc [.int a0] (AtP g N ln S)) (QI g N ln post) 0 0 (gF g) := by
  refine m_of (by decide) (Nat.le_of_ble_eq_true rfl) ?_
  intro p e s m below meth c ls F hr I hl
  have hl : lv_has ls 1 [(0, .int a0)] := hl
  unfold wpX7_isKind at h
  have hj_14 : ∀ (S : HC) (H : Heap) (locs : List Loc) (ls : Array Slot), BX7_isKind_14 ln post S  → Inv g N ln S s H locs → lv_has ls 1 [] → W p l e rmX7_isKind s m ([.int a0] : List Value).toArray below meth c H locs 0 0 (MQ below (QI g N ln post) ([.int a0] : List Value).toArray s 0 0 (gF g)) (F0 m 14 ls []) := by
    intro S H locs ls h I hl
    unfold BX7_isKind_14 at h
    refine lv_iconst (v := 0) F.1 F.2.1 dX7_isKind_14 (by decide) ?_
    exact r_zreturn F I ⟨hr.1, hr.2.1, trivial⟩ h dX7_isKind_15
  refine lv_iload_n F.1 F.2.1 dX7_isKind_0 rfl (lv_at hl 0 rfl) ?_
  refine r_if_lt (tgt := 14) F dX7_isKind_1 (by decide) h (fun h => ?_) (fun h => ?_)
  · exact hj_14 S _ _ _   h I (lv_sub hl [] rfl)
  · refine lv_iload_n F.1 F.2.1 dX7_isKind_4 rfl (lv_at hl 0 rfl) ?_
    refine lv_bipush (v := 6) F.1 F.2.1 dX7_isKind_5 (by decide) ?_
    refine r_icmp_ge (tgt := 14) F dX7_isKind_7 (by decide) h (fun h => ?_) (fun h => ?_)
    · exact hj_14 S _ _ _   h I (lv_sub hl [] rfl)
    · refine lv_iconst (v := 1) F.1 F.2.1 dX7_isKind_10 (by decide) ?_
      refine lv_goto (tgt := 15) F.1 F.2.1 dX7_isKind_11 (by decide) ?_
      exact r_zreturn F I ⟨hr.1, hr.2.1, trivial⟩ h dX7_isKind_15
theorem bdX7_isCharge_0 : ∀ q ∈ ([(0, .iload_n 0, 1), (1, .ifCond .lt 13, 3), (4, .iload_n 0, 1), (5, .bipush 8, 2), (7, .if_icmp .ge 7, 3), (10, .iconst 1, 1), (11, .goto 4, 3), (14, .iconst 0, 1), (15, .ireturn, 1)] : List (Nat × Jvm.ClassFile.Instr × Nat)), decode cX7_isCharge q.1 = .ok q.2 := chk_ok _ 0 _ rfl (by decide +kernel)
theorem dX7_isCharge_0 : decode cX7_isCharge 0 = .ok (.iload_n 0, 1) := bdX7_isCharge_0 (0, .iload_n 0, 1) (List.mem_of_getElem? (i := 0) rfl)
theorem dX7_isCharge_1 : decode cX7_isCharge 1 = .ok (.ifCond .lt 13, 3) := bdX7_isCharge_0 (1, .ifCond .lt 13, 3) (List.mem_of_getElem? (i := 1) rfl)
theorem dX7_isCharge_4 : decode cX7_isCharge 4 = .ok (.iload_n 0, 1) := bdX7_isCharge_0 (4, .iload_n 0, 1) (List.mem_of_getElem? (i := 2) rfl)
theorem dX7_isCharge_5 : decode cX7_isCharge 5 = .ok (.bipush 8, 2) := bdX7_isCharge_0 (5, .bipush 8, 2) (List.mem_of_getElem? (i := 3) rfl)
theorem dX7_isCharge_7 : decode cX7_isCharge 7 = .ok (.if_icmp .ge 7, 3) := bdX7_isCharge_0 (7, .if_icmp .ge 7, 3) (List.mem_of_getElem? (i := 4) rfl)
theorem dX7_isCharge_10 : decode cX7_isCharge 10 = .ok (.iconst 1, 1) := bdX7_isCharge_0 (10, .iconst 1, 1) (List.mem_of_getElem? (i := 5) rfl)
theorem dX7_isCharge_11 : decode cX7_isCharge 11 = .ok (.goto 4, 3) := bdX7_isCharge_0 (11, .goto 4, 3) (List.mem_of_getElem? (i := 6) rfl)
theorem dX7_isCharge_14 : decode cX7_isCharge 14 = .ok (.iconst 0, 1) := bdX7_isCharge_0 (14, .iconst 0, 1) (List.mem_of_getElem? (i := 7) rfl)
theorem dX7_isCharge_15 : decode cX7_isCharge 15 = .ok (.ireturn, 1) := bdX7_isCharge_0 (15, .ireturn, 1) (List.mem_of_getElem? (i := 8) rfl)
def BX7_isCharge_14 (ln : Nat → Nat) (post : Int32 → HC → Prop) (S : HC)  : Prop := rb_ .boolean (0 : Int32) (post (0 : Int32) S)
def wpX7_isCharge (ln : Nat → Nat) (S : HC) (a0 : Int32) (post : Int32 → HC → Prop) : Prop := if a0 < 0 then (BX7_isCharge_14 ln post S) else (if (8 : Int32) ≤ a0 then (BX7_isCharge_14 ln post S) else (rb_ .boolean (1 : Int32) (post (1 : Int32) S)))
abbrev rmX7_isCharge : Room := { frames := 0, cells := 0, slots := 0, locals := 0 }
set_option maxHeartbeats 4000000 in
set_option maxRecDepth 100000 in
theorem ctX7_isCharge {l : Launch} {g : GX} {N : Nat} {ln : Nat → Nat} {S : HC} {a0 : Int32} {post : Int32 → HC → Prop} (h : wpX7_isCharge ln S a0 post) : Met l yX7_isCharge (Cond.code yX7_isCharge prog_1_method_48_code 1 (Option.some Jvm.ClassFile.FieldType.boolean) :: gtbl) rmX7_isCharge (va_Pc [.int a0] (AtP g N ln S)) (QI g N ln post) 0 0 (gF g) := by
  refine m_of (by decide) (Nat.le_of_ble_eq_true rfl) ?_
  intro p e s m below meth c ls F hr I hl
  have hl : lv_has ls 1 [(0, .int a0)] := hl
  unfold wpX7_isCharge at h
  have hj_14 : ∀ (S : HC) (H : Heap) (locs : List Loc) (ls : Array Slot), BX7_isCharge_14 ln post S  → Inv g N ln S s H locs → lv_has ls 1 [] → W p l e rmX7_isCharge s m ([.int a0] : List Value).toArray below meth c H locs 0 0 (MQ below (QI g N ln post) ([.int a0] : List Value).toArray s 0 0 (gF g)) (F0 m 14 ls []) := by
    intro S H locs ls h I hl
    unfold BX7_isCharge_14 at h
    refine lv_iconst (v := 0) F.1 F.2.1 dX7_isCharge_14 (by decide) ?_
    exact r_zreturn F I ⟨hr.1, hr.2.1, trivial⟩ h dX7_isCharge_15
  refine lv_iload_n F.1 F.2.1 dX7_isCharge_0 rfl (lv_at hl 0 rfl) ?_
  refine r_if_lt (tgt := 14) F dX7_isCharge_1 (by decide) h (fun h => ?_) (fun h => ?_)
  · exact hj_14 S _ _ _   h I (lv_sub hl [] rfl)
  · refine lv_iload_n F.1 F.2.1 dX7_isCharge_4 rfl (lv_at hl 0 rfl) ?_
    refine lv_bipush (v := 8) F.1 F.2.1 dX7_isCharge_5 (by decide) ?_
    refine r_icmp_ge (tgt := 14) F dX7_isCharge_7 (by decide) h (fun h => ?_) (fun h => ?_)
    · exact hj_14 S _ _ _   h I (lv_sub hl [] rfl)
    · refine lv_iconst (v := 1) F.1 F.2.1 dX7_isCharge_10 (by decide) ?_
      refine lv_goto (tgt := 15) F.1 F.2.1 dX7_isCharge_11 (by decide) ?_
      exact r_zreturn F I ⟨hr.1, hr.2.1, trivial⟩ h dX7_isCharge_15
theorem bdX7_isSheet_0 : ∀ q ∈ ([(0, .iload_n 0, 1), (1, .ifCond .lt 12, 3), (4, .iload_n 0, 1), (5, .iconst 4, 1), (6, .if_icmp .ge 7, 3), (9, .iconst 1, 1), (10, .goto 4, 3), (13, .iconst 0, 1), (14, .ireturn, 1)] : List (Nat × Jvm.ClassFile.Instr × Nat)), decode cX7_isSheet q.1 = .ok q.2 := chk_ok _ 0 _ rfl (by decide +kernel)
theorem dX7_isSheet_0 : decode cX7_isSheet 0 = .ok (.iload_n 0, 1) := bdX7_isSheet_0 (0, .iload_n 0, 1) (List.mem_of_getElem? (i := 0) rfl)
theorem dX7_isSheet_1 : decode cX7_isSheet 1 = .ok (.ifCond .lt 12, 3) := bdX7_isSheet_0 (1, .ifCond .lt 12, 3) (List.mem_of_getElem? (i := 1) rfl)
theorem dX7_isSheet_4 : decode cX7_isSheet 4 = .ok (.iload_n 0, 1) := bdX7_isSheet_0 (4, .iload_n 0, 1) (List.mem_of_getElem? (i := 2) rfl)
theorem dX7_isSheet_5 : decode cX7_isSheet 5 = .ok (.iconst 4, 1) := bdX7_isSheet_0 (5, .iconst 4, 1) (List.mem_of_getElem? (i := 3) rfl)
theorem dX7_isSheet_6 : decode cX7_isSheet 6 = .ok (.if_icmp .ge 7, 3) := bdX7_isSheet_0 (6, .if_icmp .ge 7, 3) (List.mem_of_getElem? (i := 4) rfl)
theorem dX7_isSheet_9 : decode cX7_isSheet 9 = .ok (.iconst 1, 1) := bdX7_isSheet_0 (9, .iconst 1, 1) (List.mem_of_getElem? (i := 5) rfl)
theorem dX7_isSheet_10 : decode cX7_isSheet 10 = .ok (.goto 4, 3) := bdX7_isSheet_0 (10, .goto 4, 3) (List.mem_of_getElem? (i := 6) rfl)
theorem dX7_isSheet_13 : decode cX7_isSheet 13 = .ok (.iconst 0, 1) := bdX7_isSheet_0 (13, .iconst 0, 1) (List.mem_of_getElem? (i := 7) rfl)
theorem dX7_isSheet_14 : decode cX7_isSheet 14 = .ok (.ireturn, 1) := bdX7_isSheet_0 (14, .ireturn, 1) (List.mem_of_getElem? (i := 8) rfl)
def BX7_isSheet_13 (ln : Nat → Nat) (post : Int32 → HC → Prop) (S : HC)  : Prop := rb_ .boolean (0 : Int32) (post (0 : Int32) S)
def wpX7_isSheet (ln : Nat → Nat) (S : HC) (a0 : Int32) (post : Int32 → HC → Prop) : Prop := if a0 < 0 then (BX7_isSheet_13 ln post S) else (if (4 : Int32) ≤ a0 then (BX7_isSheet_13 ln post S) else (rb_ .boolean (1 : Int32) (post (1 : Int32) S)))
abbrev rmX7_isSheet : Room := { frames := 0, cells := 0, slots := 0, locals := 0 }
set_option maxHeartbeats 4000000 in
set_option maxRecDepth 100000 in
theorem ctX7_isSheet {l : Launch} {g : GX} {N : Nat} {ln : Nat → Nat} {S : HC} {a0 : Int32} {post : Int32 → HC → Prop} (h : wpX7_isSheet ln S a0 post) : Met l yX7_isSheet (Cond.code yX7_isSheet prog_1_method_49_code 1 (Option.some Jvm.ClassFile.FieldType.boolean) :: gtbl) rmX7_isSheet (va_Pc [.int a0] (AtP g N ln S)) (QI g N ln post) 0 0 (gF g) := by
  refine m_of (by decide) (Nat.le_of_ble_eq_true rfl) ?_
  intro p e s m below meth c ls F hr I hl
  have hl : lv_has ls 1 [(0, .int a0)] := hl
  unfold wpX7_isSheet at h
  have hj_13 : ∀ (S : HC) (H : Heap) (locs : List Loc) (ls : Array Slot), BX7_isSheet_13 ln post S  → Inv g N ln S s H locs → lv_has ls 1 [] → W p l e rmX7_isSheet s m ([.int a0] : List Value).toArray below meth c H locs 0 0 (MQ below (QI g N ln post) ([.int a0] : List Value).toArray s 0 0 (gF g)) (F0 m 13 ls []) := by
    intro S H locs ls h I hl
    unfold BX7_isSheet_13 at h
    refine lv_iconst (v := 0) F.1 F.2.1 dX7_isSheet_13 (by decide) ?_
    exact r_zreturn F I ⟨hr.1, hr.2.1, trivial⟩ h dX7_isSheet_14
  refine lv_iload_n F.1 F.2.1 dX7_isSheet_0 rfl (lv_at hl 0 rfl) ?_
  refine r_if_lt (tgt := 13) F dX7_isSheet_1 (by decide) h (fun h => ?_) (fun h => ?_)
  · exact hj_13 S _ _ _   h I (lv_sub hl [] rfl)
  · refine lv_iload_n F.1 F.2.1 dX7_isSheet_4 rfl (lv_at hl 0 rfl) ?_
    refine lv_iconst (v := 4) F.1 F.2.1 dX7_isSheet_5 (by decide) ?_
    refine r_icmp_ge (tgt := 13) F dX7_isSheet_6 (by decide) h (fun h => ?_) (fun h => ?_)
    · exact hj_13 S _ _ _   h I (lv_sub hl [] rfl)
    · refine lv_iconst (v := 1) F.1 F.2.1 dX7_isSheet_9 (by decide) ?_
      refine lv_goto (tgt := 14) F.1 F.2.1 dX7_isSheet_10 (by decide) ?_
      exact r_zreturn F I ⟨hr.1, hr.2.1, trivial⟩ h dX7_isSheet_14
theorem bdX7_isSlot_0 : ∀ q ∈ ([(0, .iload_n 0, 1), (1, .ifCond .lt 12, 3), (4, .iload_n 0, 1), (5, .iconst 5, 1), (6, .if_icmp .ge 7, 3), (9, .iconst 1, 1), (10, .goto 4, 3), (13, .iconst 0, 1), (14, .ireturn, 1)] : List (Nat × Jvm.ClassFile.Instr × Nat)), decode cX7_isSlot q.1 = .ok q.2 := chk_ok _ 0 _ rfl (by decide +kernel)
theorem dX7_isSlot_0 : decode cX7_isSlot 0 = .ok (.iload_n 0, 1) := bdX7_isSlot_0 (0, .iload_n 0, 1) (List.mem_of_getElem? (i := 0) rfl)
theorem dX7_isSlot_1 : decode cX7_isSlot 1 = .ok (.ifCond .lt 12, 3) := bdX7_isSlot_0 (1, .ifCond .lt 12, 3) (List.mem_of_getElem? (i := 1) rfl)
theorem dX7_isSlot_4 : decode cX7_isSlot 4 = .ok (.iload_n 0, 1) := bdX7_isSlot_0 (4, .iload_n 0, 1) (List.mem_of_getElem? (i := 2) rfl)
theorem dX7_isSlot_5 : decode cX7_isSlot 5 = .ok (.iconst 5, 1) := bdX7_isSlot_0 (5, .iconst 5, 1) (List.mem_of_getElem? (i := 3) rfl)
theorem dX7_isSlot_6 : decode cX7_isSlot 6 = .ok (.if_icmp .ge 7, 3) := bdX7_isSlot_0 (6, .if_icmp .ge 7, 3) (List.mem_of_getElem? (i := 4) rfl)
theorem dX7_isSlot_9 : decode cX7_isSlot 9 = .ok (.iconst 1, 1) := bdX7_isSlot_0 (9, .iconst 1, 1) (List.mem_of_getElem? (i := 5) rfl)
theorem dX7_isSlot_10 : decode cX7_isSlot 10 = .ok (.goto 4, 3) := bdX7_isSlot_0 (10, .goto 4, 3) (List.mem_of_getElem? (i := 6) rfl)
theorem dX7_isSlot_13 : decode cX7_isSlot 13 = .ok (.iconst 0, 1) := bdX7_isSlot_0 (13, .iconst 0, 1) (List.mem_of_getElem? (i := 7) rfl)
theorem dX7_isSlot_14 : decode cX7_isSlot 14 = .ok (.ireturn, 1) := bdX7_isSlot_0 (14, .ireturn, 1) (List.mem_of_getElem? (i := 8) rfl)
def BX7_isSlot_13 (ln : Nat → Nat) (post : Int32 → HC → Prop) (S : HC)  : Prop := rb_ .boolean (0 : Int32) (post (0 : Int32) S)
def wpX7_isSlot (ln : Nat → Nat) (S : HC) (a0 : Int32) (post : Int32 → HC → Prop) : Prop := if a0 < 0 then (BX7_isSlot_13 ln post S) else (if (5 : Int32) ≤ a0 then (BX7_isSlot_13 ln post S) else (rb_ .boolean (1 : Int32) (post (1 : Int32) S)))
abbrev rmX7_isSlot : Room := { frames := 0, cells := 0, slots := 0, locals := 0 }
set_option maxHeartbeats 4000000 in
set_option maxRecDepth 100000 in
theorem ctX7_isSlot {l : Launch} {g : GX} {N : Nat} {ln : Nat → Nat} {S : HC} {a0 : Int32} {post : Int32 → HC → Prop} (h : wpX7_isSlot ln S a0 post) : Met l yX7_isSlot (Cond.code yX7_isSlot prog_1_method_50_code 1 (Option.some Jvm.ClassFile.FieldType.boolean) :: gtbl) rmX7_isSlot (va_Pc [.int a0] (AtP g N ln S)) (QI g N ln post) 0 0 (gF g) := by
  refine m_of (by decide) (Nat.le_of_ble_eq_true rfl) ?_
  intro p e s m below meth c ls F hr I hl
  have hl : lv_has ls 1 [(0, .int a0)] := hl
  unfold wpX7_isSlot at h
  have hj_13 : ∀ (S : HC) (H : Heap) (locs : List Loc) (ls : Array Slot), BX7_isSlot_13 ln post S  → Inv g N ln S s H locs → lv_has ls 1 [] → W p l e rmX7_isSlot s m ([.int a0] : List Value).toArray below meth c H locs 0 0 (MQ below (QI g N ln post) ([.int a0] : List Value).toArray s 0 0 (gF g)) (F0 m 13 ls []) := by
    intro S H locs ls h I hl
    unfold BX7_isSlot_13 at h
    refine lv_iconst (v := 0) F.1 F.2.1 dX7_isSlot_13 (by decide) ?_
    exact r_zreturn F I ⟨hr.1, hr.2.1, trivial⟩ h dX7_isSlot_14
  refine lv_iload_n F.1 F.2.1 dX7_isSlot_0 rfl (lv_at hl 0 rfl) ?_
  refine r_if_lt (tgt := 13) F dX7_isSlot_1 (by decide) h (fun h => ?_) (fun h => ?_)
  · exact hj_13 S _ _ _   h I (lv_sub hl [] rfl)
  · refine lv_iload_n F.1 F.2.1 dX7_isSlot_4 rfl (lv_at hl 0 rfl) ?_
    refine lv_iconst (v := 5) F.1 F.2.1 dX7_isSlot_5 (by decide) ?_
    refine r_icmp_ge (tgt := 13) F dX7_isSlot_6 (by decide) h (fun h => ?_) (fun h => ?_)
    · exact hj_13 S _ _ _   h I (lv_sub hl [] rfl)
    · refine lv_iconst (v := 1) F.1 F.2.1 dX7_isSlot_9 (by decide) ?_
      refine lv_goto (tgt := 14) F.1 F.2.1 dX7_isSlot_10 (by decide) ?_
      exact r_zreturn F I ⟨hr.1, hr.2.1, trivial⟩ h dX7_isSlot_14
theorem bdX7_within_0 : ∀ q ∈ ([(0, .iload_n 1, 1), (1, .iload_n 2, 1), (2, .iload_n 0, 1), (3, .invokestatic 141, 3), (6, .invokestatic 322, 3), (9, .ireturn, 1)] : List (Nat × Jvm.ClassFile.Instr × Nat)), decode cX7_within q.1 = .ok q.2 := chk_ok _ 0 _ rfl (by decide +kernel)
theorem dX7_within_0 : decode cX7_within 0 = .ok (.iload_n 1, 1) := bdX7_within_0 (0, .iload_n 1, 1) (List.mem_of_getElem? (i := 0) rfl)
theorem dX7_within_1 : decode cX7_within 1 = .ok (.iload_n 2, 1) := bdX7_within_0 (1, .iload_n 2, 1) (List.mem_of_getElem? (i := 1) rfl)
theorem dX7_within_2 : decode cX7_within 2 = .ok (.iload_n 0, 1) := bdX7_within_0 (2, .iload_n 0, 1) (List.mem_of_getElem? (i := 2) rfl)
theorem dX7_within_3 : decode cX7_within 3 = .ok (.invokestatic 141, 3) := bdX7_within_0 (3, .invokestatic 141, 3) (List.mem_of_getElem? (i := 3) rfl)
theorem dX7_within_6 : decode cX7_within 6 = .ok (.invokestatic 322, 3) := bdX7_within_0 (6, .invokestatic 322, 3) (List.mem_of_getElem? (i := 4) rfl)
theorem dX7_within_9 : decode cX7_within 9 = .ok (.ireturn, 1) := bdX7_within_0 (9, .ireturn, 1) (List.mem_of_getElem? (i := 5) rfl)
def wpX7_within (ln : Nat → Nat) (S : HC) (a0 : Int32) (a1 : Int32) (a2 : Int32) (post : Int32 → HC → Prop) : Prop := lt_ (if a0 < a2 then a0 else a2) fun z1 => lt_ (if a1 < z1 then z1 else a1) fun z2 => post z2 S
abbrev rmX7_within : Room := { frames := 1, cells := 0, slots := 0, locals := 21 }
set_option maxHeartbeats 4000000 in
set_option maxRecDepth 100000 in
theorem ctX7_within {l : Launch} {g : GX} {N : Nat} {ln : Nat → Nat} {S : HC} {a0 : Int32} {a1 : Int32} {a2 : Int32} {post : Int32 → HC → Prop} (h : wpX7_within ln S a0 a1 a2 post) : Met l yX7_within (Cond.code yX7_within prog_1_method_51_code 3 (Option.some Jvm.ClassFile.FieldType.int) :: gtbl) rmX7_within (va_Pc [.int a0, .int a1, .int a2] (AtP g N ln S)) (QI g N ln post) 0 0 (gF g) := by
  refine m_of (by decide) (Nat.le_of_ble_eq_true rfl) ?_
  intro p e s m below meth c ls F hr I hl
  have hl : lv_has ls 3 [(0, .int a0), (1, .int a1), (2, .int a2)] := hl
  unfold wpX7_within at h
  refine lv_iload_n F.1 F.2.1 dX7_within_0 rfl (lv_at hl 1 rfl) ?_
  refine lv_iload_n F.1 F.2.1 dX7_within_1 rfl (lv_at hl 2 rfl) ?_
  refine lv_iload_n F.1 F.2.1 dX7_within_2 rfl (lv_at hl 0 rfl) ?_
  refine r_mmin F hl.1 tw_416 (Nat.le_of_ble_eq_true rfl) (Nat.le_of_ble_eq_true rfl) (Nat.zero_le _) (Nat.zero_le _) dX7_within_3 h (fun z1 h => ?_)
  refine r_mmax F hl.1 tw_417 (Nat.le_of_ble_eq_true rfl) (Nat.le_of_ble_eq_true rfl) (Nat.zero_le _) (Nat.zero_le _) dX7_within_6 h (fun z2 h => ?_)
  exact r_ireturn F I ⟨hr.1, hr.2.1, trivial⟩ h dX7_within_9
theorem bdX7_isOfKind_0 : ∀ q ∈ ([(0, .iload_n 0, 1), (1, .istore_n 2, 1), (2, .iconst 0, 1), (3, .istore_n 3, 1), (4, .iload_n 3, 1), (5, .bipush 6, 2), (7, .if_icmp .ge 29, 3), (10, .iload_n 2, 1), (11, .invokestatic 65, 3), (14, .ifCond .eq 22, 3), (17, .iload_n 2, 1), (18, .iload_n 1, 1), (19, .if_icmp .ne 5, 3), (22, .iconst 1, 1), (23, .ireturn, 1), (27, .iload_n 2, 1), (28, .iaload, 1), (29, .istore_n 2, 1), (30, .iinc 3 1, 3), (33, .goto (-29), 3), (36, .iconst 0, 1), (37, .ireturn, 1)] : List (Nat × Jvm.ClassFile.Instr × Nat)), decode cX7_isOfKind q.1 = .ok q.2 := chk_ok _ 0 _ rfl (by decide +kernel)
theorem dX7_isOfKind_0 : decode cX7_isOfKind 0 = .ok (.iload_n 0, 1) := bdX7_isOfKind_0 (0, .iload_n 0, 1) (List.mem_of_getElem? (i := 0) rfl)
theorem dX7_isOfKind_1 : decode cX7_isOfKind 1 = .ok (.istore_n 2, 1) := bdX7_isOfKind_0 (1, .istore_n 2, 1) (List.mem_of_getElem? (i := 1) rfl)
theorem dX7_isOfKind_2 : decode cX7_isOfKind 2 = .ok (.iconst 0, 1) := bdX7_isOfKind_0 (2, .iconst 0, 1) (List.mem_of_getElem? (i := 2) rfl)
theorem dX7_isOfKind_3 : decode cX7_isOfKind 3 = .ok (.istore_n 3, 1) := bdX7_isOfKind_0 (3, .istore_n 3, 1) (List.mem_of_getElem? (i := 3) rfl)
theorem dX7_isOfKind_4 : decode cX7_isOfKind 4 = .ok (.iload_n 3, 1) := bdX7_isOfKind_0 (4, .iload_n 3, 1) (List.mem_of_getElem? (i := 4) rfl)
theorem dX7_isOfKind_5 : decode cX7_isOfKind 5 = .ok (.bipush 6, 2) := bdX7_isOfKind_0 (5, .bipush 6, 2) (List.mem_of_getElem? (i := 5) rfl)
theorem dX7_isOfKind_7 : decode cX7_isOfKind 7 = .ok (.if_icmp .ge 29, 3) := bdX7_isOfKind_0 (7, .if_icmp .ge 29, 3) (List.mem_of_getElem? (i := 6) rfl)
theorem dX7_isOfKind_10 : decode cX7_isOfKind 10 = .ok (.iload_n 2, 1) := bdX7_isOfKind_0 (10, .iload_n 2, 1) (List.mem_of_getElem? (i := 7) rfl)
theorem dX7_isOfKind_11 : decode cX7_isOfKind 11 = .ok (.invokestatic 65, 3) := bdX7_isOfKind_0 (11, .invokestatic 65, 3) (List.mem_of_getElem? (i := 8) rfl)
theorem dX7_isOfKind_14 : decode cX7_isOfKind 14 = .ok (.ifCond .eq 22, 3) := bdX7_isOfKind_0 (14, .ifCond .eq 22, 3) (List.mem_of_getElem? (i := 9) rfl)
theorem dX7_isOfKind_17 : decode cX7_isOfKind 17 = .ok (.iload_n 2, 1) := bdX7_isOfKind_0 (17, .iload_n 2, 1) (List.mem_of_getElem? (i := 10) rfl)
theorem dX7_isOfKind_18 : decode cX7_isOfKind 18 = .ok (.iload_n 1, 1) := bdX7_isOfKind_0 (18, .iload_n 1, 1) (List.mem_of_getElem? (i := 11) rfl)
theorem dX7_isOfKind_19 : decode cX7_isOfKind 19 = .ok (.if_icmp .ne 5, 3) := bdX7_isOfKind_0 (19, .if_icmp .ne 5, 3) (List.mem_of_getElem? (i := 12) rfl)
theorem dX7_isOfKind_22 : decode cX7_isOfKind 22 = .ok (.iconst 1, 1) := bdX7_isOfKind_0 (22, .iconst 1, 1) (List.mem_of_getElem? (i := 13) rfl)
theorem dX7_isOfKind_23 : decode cX7_isOfKind 23 = .ok (.ireturn, 1) := bdX7_isOfKind_0 (23, .ireturn, 1) (List.mem_of_getElem? (i := 14) rfl)
theorem dX7_isOfKind_27 : decode cX7_isOfKind 27 = .ok (.iload_n 2, 1) := bdX7_isOfKind_0 (27, .iload_n 2, 1) (List.mem_of_getElem? (i := 15) rfl)
theorem dX7_isOfKind_28 : decode cX7_isOfKind 28 = .ok (.iaload, 1) := bdX7_isOfKind_0 (28, .iaload, 1) (List.mem_of_getElem? (i := 16) rfl)
theorem dX7_isOfKind_29 : decode cX7_isOfKind 29 = .ok (.istore_n 2, 1) := bdX7_isOfKind_0 (29, .istore_n 2, 1) (List.mem_of_getElem? (i := 17) rfl)
theorem dX7_isOfKind_30 : decode cX7_isOfKind 30 = .ok (.iinc 3 1, 3) := bdX7_isOfKind_0 (30, .iinc 3 1, 3) (List.mem_of_getElem? (i := 18) rfl)
theorem dX7_isOfKind_33 : decode cX7_isOfKind 33 = .ok (.goto (-29), 3) := bdX7_isOfKind_0 (33, .goto (-29), 3) (List.mem_of_getElem? (i := 19) rfl)
theorem dX7_isOfKind_36 : decode cX7_isOfKind 36 = .ok (.iconst 0, 1) := bdX7_isOfKind_0 (36, .iconst 0, 1) (List.mem_of_getElem? (i := 20) rfl)
theorem dX7_isOfKind_37 : decode cX7_isOfKind 37 = .ok (.ireturn, 1) := bdX7_isOfKind_0 (37, .ireturn, 1) (List.mem_of_getElem? (i := 21) rfl)
theorem dX7_isOfKind_24 : decode cX7_isOfKind 24 = .ok (.getstatic 325, 3) := by decide +kernel
theorem kX7_65 : mthS RX7 65 yX7_isKind prog_1_method_47_code 1 (Option.some Jvm.ClassFile.FieldType.boolean) 1 := ⟨⟨⟨tw_323, tw_60, tw_325⟩, rfl, by decide +kernel⟩, tw_324⟩
def BX7_isOfKind_36 (ln : Nat → Nat) (post : Int32 → HC → Prop) (S : HC)  : Prop := rb_ .boolean (0 : Int32) (post (0 : Int32) S)
def LX7_isOfKind_4 (ln : Nat → Nat) (post : Int32 → HC → Prop) : Nat → HC → Int32 → Int32 → Int32 → Prop
  | 0 => fun _ _ _ _ => False
  | n4 + 1 => fun S x1 x2 x3 => if (6 : Int32) ≤ x3 then (BX7_isOfKind_36 ln post S) else (wpX7_isKind ln S x2 fun z1 S => if z1 = 0 then (BX7_isOfKind_36 ln post S) else (if x2 = x1 then (rb_ .boolean (1 : Int32) (post (1 : Int32) S)) else (al_ 6 x2 (fun j => kaL.getD j 0) fun z2 => lt_ (x3 + (1 : Int32)) fun z3 => (LX7_isOfKind_4 ln post n4) S x1 z2 z3)))
def wpX7_isOfKind (ln : Nat → Nat) (S : HC) (a0 : Int32) (a1 : Int32) (post : Int32 → HC → Prop) : Prop := ∃ n4, LX7_isOfKind_4 ln post n4 S a1 a0 (0 : Int32)
abbrev rmX7_isOfKind : Room := { frames := 1, cells := 0, slots := 0, locals := 20 }
set_option maxHeartbeats 4000000 in
set_option maxRecDepth 100000 in
theorem ctX7_isOfKind {l : Launch} {g : GX} {N : Nat} {ln : Nat → Nat} {S : HC} {a0 : Int32} {a1 : Int32} {post : Int32 → HC → Prop} (h : wpX7_isOfKind ln S a0 a1 post) : Met l yX7_isOfKind (Cond.code yX7_isOfKind prog_1_method_52_code 4 (Option.some Jvm.ClassFile.FieldType.boolean) :: gtbl) rmX7_isOfKind (va_Pc [.int a0, .int a1] (AtP g N ln S)) (QI g N ln post) 0 0 (gF g) := by
  refine m_of (by decide) (Nat.le_of_ble_eq_true rfl) ?_
  intro p e s m below meth c ls F hr I hl
  have hl : lv_has ls 4 [(0, .int a0), (1, .int a1)] := hl
  unfold wpX7_isOfKind at h
  have hj_36 : ∀ (S : HC) (H : Heap) (locs : List Loc) (ls : Array Slot), BX7_isOfKind_36 ln post S  → Inv g N ln S s H locs → lv_has ls 4 [] → W p l e rmX7_isOfKind s m ([.int a0, .int a1] : List Value).toArray below meth c H locs 0 0 (MQ below (QI g N ln post) ([.int a0, .int a1] : List Value).toArray s 0 0 (gF g)) (F0 m 36 ls []) := by
    intro S H locs ls h I hl
    unfold BX7_isOfKind_36 at h
    refine lv_iconst (v := 0) F.1 F.2.1 dX7_isOfKind_36 (by decide) ?_
    exact r_zreturn F I ⟨hr.1, hr.2.1, trivial⟩ h dX7_isOfKind_37
  have hl_4 : ∀ n4 : Nat, ∀ (S : HC) (H : Heap) (locs : List Loc) (ls : Array Slot) (x1 : Int32) (x2 : Int32) (x3 : Int32), LX7_isOfKind_4 ln post n4 S x1 x2 x3 → Inv g N ln S s H locs → lv_has ls 4 [(1, .int x1), (2, .int x2), (3, .int x3)] → W p l e rmX7_isOfKind s m ([.int a0, .int a1] : List Value).toArray below meth c H locs 0 0 (MQ below (QI g N ln post) ([.int a0, .int a1] : List Value).toArray s 0 0 (gF g)) (F0 m 4 ls []) := by
    intro n4
    induction n4 with
    | zero =>
      intro S H locs ls x1 x2 x3 h I hl
      exact h.elim
    | succ n4 ih =>
      have hk4 := ih
      intro S H locs ls x1 x2 x3 h I hl
      rw [LX7_isOfKind_4] at h
      refine lv_iload_n F.1 F.2.1 dX7_isOfKind_4 rfl (lv_at hl 2 rfl) ?_
      refine lv_bipush (v := 6) F.1 F.2.1 dX7_isOfKind_5 (by decide) ?_
      refine r_icmp_ge (tgt := 36) F dX7_isOfKind_7 (by decide) h (fun h => ?_) (fun h => ?_)
      · exact hj_36 S _ _ _   h I (lv_sub hl [] rfl)
      · refine lv_iload_n F.1 F.2.1 dX7_isOfKind_10 rfl (lv_at hl 1 rfl) ?_
        refine g_I I (run_S (As := [.int x2]) (rest := []) F I kX7_65 (ctX7_isKind h) ⟨rfl, rfl⟩ ⟨Nat.le_of_ble_eq_true rfl, Nat.le_of_ble_eq_true rfl⟩ rfl hl.1 rfl (Nat.le_of_ble_eq_true rfl) ⟨Nat.le_of_ble_eq_true rfl, Nat.le_of_ble_eq_true rfl⟩ dX7_isOfKind_11) (fun z1 S H locs I h => ?_)
        refine r_if_eq (tgt := 36) F dX7_isOfKind_14 (by decide) h (fun h => ?_) (fun h => ?_)
        · exact hj_36 S _ _ _   h I (lv_sub hl [] rfl)
        · refine lv_iload_n F.1 F.2.1 dX7_isOfKind_17 rfl (lv_at hl 1 rfl) ?_
          refine lv_iload_n F.1 F.2.1 dX7_isOfKind_18 rfl (lv_at hl 0 rfl) ?_
          refine r_icmp_ne (tgt := 24) F dX7_isOfKind_19 (by decide) h (fun h => ?_) (fun h => ?_)
          · refine r_kget F I tw_436 dX7_isOfKind_24 ?_
            refine lv_iload_n F.1 F.2.1 dX7_isOfKind_27 rfl (lv_at hl 1 rfl) ?_
            refine r_kald F I dX7_isOfKind_28 h (fun z2 h => ?_)
            refine lv_istore_n (lv' := [(2, .int z2), (1, .int x1), (3, .int x3)]) F.1 F.2.1 dX7_isOfKind_29 rfl hl (by decide) rfl (fun ls hl => ?_)
            obtain ⟨z3, e_z3, h⟩ := lt_x h
            refine lv_iinc (v := z3) (lv' := [(3, .int z3), (2, .int z2), (1, .int x1)]) F.1 F.2.1 dX7_isOfKind_30 hl (k := 2) rfl (by rw [e_z3]; rfl) (by decide) rfl (fun ls hl => ?_)
            refine lv_goto (tgt := 4) F.1 F.2.1 dX7_isOfKind_33 (by decide) ?_
            exact hk4 S _ _ _ x1 z2 z3  h I (lv_sub hl [2, 1, 0] rfl)
          · refine lv_iconst (v := 1) F.1 F.2.1 dX7_isOfKind_22 (by decide) ?_
            exact r_zreturn F I ⟨hr.1, hr.2.1, trivial⟩ h dX7_isOfKind_23
  refine lv_iload_n F.1 F.2.1 dX7_isOfKind_0 rfl (lv_at hl 0 rfl) ?_
  refine lv_istore_n (lv' := [(2, .int a0), (0, .int a0), (1, .int a1)]) F.1 F.2.1 dX7_isOfKind_1 rfl hl (by decide) rfl (fun ls hl => ?_)
  refine lv_iconst (v := 0) F.1 F.2.1 dX7_isOfKind_2 (by decide) ?_
  refine lv_istore_n (lv' := [(3, .int (0 : Int32)), (2, .int a0), (0, .int a0), (1, .int a1)]) F.1 F.2.1 dX7_isOfKind_3 rfl hl (by decide) rfl (fun ls hl => ?_)
  obtain ⟨n4, h⟩ := h
  exact hl_4 n4 S _ _ _ a1 a0 (0 : Int32)  h I (lv_sub hl [3, 1, 0] rfl)
theorem bdX7_worthOf_0 : ∀ q ∈ ([(0, .bipush 10, 2), (2, .iload_n 1, 1), (3, .imul, 1), (4, .istore_n 2, 1), (5, .iload_n 2, 1), (6, .bipush 6, 2), (8, .iadd, 1), (9, .istore_n 3, 1), (10, .bipush 99, 2), (12, .iload_n 2, 1), (13, .isub, 1), (14, .istore 4, 2), (16, .iload_n 0, 1), (52, .iload_n 3, 1), (53, .ireturn, 1), (54, .iconst 2, 1), (55, .iload_n 3, 1), (56, .imul, 1), (57, .ireturn, 1), (58, .iload 4, 2), (60, .ireturn, 1), (61, .iload 4, 2), (63, .bipush 8, 2), (65, .isub, 1), (66, .ireturn, 1), (67, .iconst 5, 1), (68, .ireturn, 1), (69, .iload_n 2, 1), (70, .ireturn, 1)] : List (Nat × Jvm.ClassFile.Instr × Nat)), decode cX7_worthOf q.1 = .ok q.2 := chk_ok _ 0 _ rfl (by decide +kernel)
theorem dX7_worthOf_0 : decode cX7_worthOf 0 = .ok (.bipush 10, 2) := bdX7_worthOf_0 (0, .bipush 10, 2) (List.mem_of_getElem? (i := 0) rfl)
theorem dX7_worthOf_2 : decode cX7_worthOf 2 = .ok (.iload_n 1, 1) := bdX7_worthOf_0 (2, .iload_n 1, 1) (List.mem_of_getElem? (i := 1) rfl)
theorem dX7_worthOf_3 : decode cX7_worthOf 3 = .ok (.imul, 1) := bdX7_worthOf_0 (3, .imul, 1) (List.mem_of_getElem? (i := 2) rfl)
theorem dX7_worthOf_4 : decode cX7_worthOf 4 = .ok (.istore_n 2, 1) := bdX7_worthOf_0 (4, .istore_n 2, 1) (List.mem_of_getElem? (i := 3) rfl)
theorem dX7_worthOf_5 : decode cX7_worthOf 5 = .ok (.iload_n 2, 1) := bdX7_worthOf_0 (5, .iload_n 2, 1) (List.mem_of_getElem? (i := 4) rfl)
theorem dX7_worthOf_6 : decode cX7_worthOf 6 = .ok (.bipush 6, 2) := bdX7_worthOf_0 (6, .bipush 6, 2) (List.mem_of_getElem? (i := 5) rfl)
theorem dX7_worthOf_8 : decode cX7_worthOf 8 = .ok (.iadd, 1) := bdX7_worthOf_0 (8, .iadd, 1) (List.mem_of_getElem? (i := 6) rfl)
theorem dX7_worthOf_9 : decode cX7_worthOf 9 = .ok (.istore_n 3, 1) := bdX7_worthOf_0 (9, .istore_n 3, 1) (List.mem_of_getElem? (i := 7) rfl)
theorem dX7_worthOf_10 : decode cX7_worthOf 10 = .ok (.bipush 99, 2) := bdX7_worthOf_0 (10, .bipush 99, 2) (List.mem_of_getElem? (i := 8) rfl)
theorem dX7_worthOf_12 : decode cX7_worthOf 12 = .ok (.iload_n 2, 1) := bdX7_worthOf_0 (12, .iload_n 2, 1) (List.mem_of_getElem? (i := 9) rfl)
theorem dX7_worthOf_13 : decode cX7_worthOf 13 = .ok (.isub, 1) := bdX7_worthOf_0 (13, .isub, 1) (List.mem_of_getElem? (i := 10) rfl)
theorem dX7_worthOf_14 : decode cX7_worthOf 14 = .ok (.istore 4, 2) := bdX7_worthOf_0 (14, .istore 4, 2) (List.mem_of_getElem? (i := 11) rfl)
theorem dX7_worthOf_16 : decode cX7_worthOf 16 = .ok (.iload_n 0, 1) := bdX7_worthOf_0 (16, .iload_n 0, 1) (List.mem_of_getElem? (i := 12) rfl)
theorem dX7_worthOf_52 : decode cX7_worthOf 52 = .ok (.iload_n 3, 1) := bdX7_worthOf_0 (52, .iload_n 3, 1) (List.mem_of_getElem? (i := 13) rfl)
theorem dX7_worthOf_53 : decode cX7_worthOf 53 = .ok (.ireturn, 1) := bdX7_worthOf_0 (53, .ireturn, 1) (List.mem_of_getElem? (i := 14) rfl)
theorem dX7_worthOf_54 : decode cX7_worthOf 54 = .ok (.iconst 2, 1) := bdX7_worthOf_0 (54, .iconst 2, 1) (List.mem_of_getElem? (i := 15) rfl)
theorem dX7_worthOf_55 : decode cX7_worthOf 55 = .ok (.iload_n 3, 1) := bdX7_worthOf_0 (55, .iload_n 3, 1) (List.mem_of_getElem? (i := 16) rfl)
theorem dX7_worthOf_56 : decode cX7_worthOf 56 = .ok (.imul, 1) := bdX7_worthOf_0 (56, .imul, 1) (List.mem_of_getElem? (i := 17) rfl)
theorem dX7_worthOf_57 : decode cX7_worthOf 57 = .ok (.ireturn, 1) := bdX7_worthOf_0 (57, .ireturn, 1) (List.mem_of_getElem? (i := 18) rfl)
theorem dX7_worthOf_58 : decode cX7_worthOf 58 = .ok (.iload 4, 2) := bdX7_worthOf_0 (58, .iload 4, 2) (List.mem_of_getElem? (i := 19) rfl)
theorem dX7_worthOf_60 : decode cX7_worthOf 60 = .ok (.ireturn, 1) := bdX7_worthOf_0 (60, .ireturn, 1) (List.mem_of_getElem? (i := 20) rfl)
theorem dX7_worthOf_61 : decode cX7_worthOf 61 = .ok (.iload 4, 2) := bdX7_worthOf_0 (61, .iload 4, 2) (List.mem_of_getElem? (i := 21) rfl)
theorem dX7_worthOf_63 : decode cX7_worthOf 63 = .ok (.bipush 8, 2) := bdX7_worthOf_0 (63, .bipush 8, 2) (List.mem_of_getElem? (i := 22) rfl)
theorem dX7_worthOf_65 : decode cX7_worthOf 65 = .ok (.isub, 1) := bdX7_worthOf_0 (65, .isub, 1) (List.mem_of_getElem? (i := 23) rfl)
theorem dX7_worthOf_66 : decode cX7_worthOf 66 = .ok (.ireturn, 1) := bdX7_worthOf_0 (66, .ireturn, 1) (List.mem_of_getElem? (i := 24) rfl)
theorem dX7_worthOf_67 : decode cX7_worthOf 67 = .ok (.iconst 5, 1) := bdX7_worthOf_0 (67, .iconst 5, 1) (List.mem_of_getElem? (i := 25) rfl)
theorem dX7_worthOf_68 : decode cX7_worthOf 68 = .ok (.ireturn, 1) := bdX7_worthOf_0 (68, .ireturn, 1) (List.mem_of_getElem? (i := 26) rfl)
theorem dX7_worthOf_69 : decode cX7_worthOf 69 = .ok (.iload_n 2, 1) := bdX7_worthOf_0 (69, .iload_n 2, 1) (List.mem_of_getElem? (i := 27) rfl)
theorem dX7_worthOf_70 : decode cX7_worthOf 70 = .ok (.ireturn, 1) := bdX7_worthOf_0 (70, .ireturn, 1) (List.mem_of_getElem? (i := 28) rfl)
theorem dX7_worthOf_17 : decode cX7_worthOf 17 = .ok (.tableswitch 52 1 5 #[35, 41, 37, 44, 50], 35) := by decide +kernel
def wpX7_worthOf (ln : Nat → Nat) (S : HC) (a0 : Int32) (a1 : Int32) (post : Int32 → HC → Prop) : Prop := lt_ ((10 : Int32) * a1) fun z1 => lt_ (z1 + (6 : Int32)) fun z2 => lt_ ((99 : Int32) - z1) fun z3 => if a0 = (1 : Int32) then (post z2 S) else if a0 = (2 : Int32) then (post z3 S) else if a0 = (3 : Int32) then (lt_ ((2 : Int32) * z2) fun z4 => post z4 S) else if a0 = (4 : Int32) then (lt_ (z3 - (8 : Int32)) fun z5 => post z5 S) else if a0 = (5 : Int32) then (post (5 : Int32) S) else post z1 S
abbrev rmX7_worthOf : Room := { frames := 0, cells := 0, slots := 0, locals := 0 }
set_option maxHeartbeats 4000000 in
set_option maxRecDepth 100000 in
theorem ctX7_worthOf {l : Launch} {g : GX} {N : Nat} {ln : Nat → Nat} {S : HC} {a0 : Int32} {a1 : Int32} {post : Int32 → HC → Prop} (h : wpX7_worthOf ln S a0 a1 post) : Met l yX7_worthOf (Cond.code yX7_worthOf prog_1_method_53_code 5 (Option.some Jvm.ClassFile.FieldType.int) :: gtbl) rmX7_worthOf (va_Pc [.int a0, .int a1] (AtP g N ln S)) (QI g N ln post) 0 0 (gF g) := by
  refine m_of (by decide) (Nat.le_of_ble_eq_true rfl) ?_
  intro p e s m below meth c ls F hr I hl
  have hl : lv_has ls 5 [(0, .int a0), (1, .int a1)] := hl
  unfold wpX7_worthOf at h
  refine lv_bipush (v := 10) F.1 F.2.1 dX7_worthOf_0 (by decide) ?_
  refine lv_iload_n F.1 F.2.1 dX7_worthOf_2 rfl (lv_at hl 1 rfl) ?_
  refine r_imul F dX7_worthOf_3 h (fun z1 h => ?_)
  refine lv_istore_n (lv' := [(2, .int z1), (0, .int a0), (1, .int a1)]) F.1 F.2.1 dX7_worthOf_4 rfl hl (by decide) rfl (fun ls hl => ?_)
  refine lv_iload_n F.1 F.2.1 dX7_worthOf_5 rfl (lv_at hl 0 rfl) ?_
  refine lv_bipush (v := 6) F.1 F.2.1 dX7_worthOf_6 (by decide) ?_
  refine r_iadd F dX7_worthOf_8 h (fun z2 h => ?_)
  refine lv_istore_n (lv' := [(3, .int z2), (2, .int z1), (0, .int a0), (1, .int a1)]) F.1 F.2.1 dX7_worthOf_9 rfl hl (by decide) rfl (fun ls hl => ?_)
  refine lv_bipush (v := 99) F.1 F.2.1 dX7_worthOf_10 (by decide) ?_
  refine lv_iload_n F.1 F.2.1 dX7_worthOf_12 rfl (lv_at hl 1 rfl) ?_
  refine r_isub F dX7_worthOf_13 h (fun z3 h => ?_)
  refine lv_istore (lv' := [(4, .int z3), (3, .int z2), (2, .int z1), (0, .int a0), (1, .int a1)]) F.1 F.2.1 dX7_worthOf_14 hl (by decide) rfl (fun ls hl => ?_)
  refine lv_iload_n F.1 F.2.1 dX7_worthOf_16 rfl (lv_at hl 3 rfl) ?_
  by_cases c0 : a0 = (1 : Int32)
  · rw [if_pos c0] at h
    refine lv_tableIn (off := 35) (tgt := 52) F.1 F.2.1 dX7_worthOf_17 (by rw [c0]; decide) (by rw [c0]; decide) (by rw [c0]; rfl) (by decide) ?_
    refine lv_iload_n F.1 F.2.1 dX7_worthOf_52 rfl (lv_at hl 1 rfl) ?_
    exact r_ireturn F I ⟨hr.1, hr.2.1, trivial⟩ h dX7_worthOf_53
  · rw [if_neg c0] at h
    by_cases c1 : a0 = (2 : Int32)
    · rw [if_pos c1] at h
      refine lv_tableIn (off := 41) (tgt := 58) F.1 F.2.1 dX7_worthOf_17 (by rw [c1]; decide) (by rw [c1]; decide) (by rw [c1]; rfl) (by decide) ?_
      refine lv_iload F.1 F.2.1 dX7_worthOf_58 (lv_at hl 0 rfl) ?_
      exact r_ireturn F I ⟨hr.1, hr.2.1, trivial⟩ h dX7_worthOf_60
    · rw [if_neg c1] at h
      by_cases c2 : a0 = (3 : Int32)
      · rw [if_pos c2] at h
        refine lv_tableIn (off := 37) (tgt := 54) F.1 F.2.1 dX7_worthOf_17 (by rw [c2]; decide) (by rw [c2]; decide) (by rw [c2]; rfl) (by decide) ?_
        refine lv_iconst (v := 2) F.1 F.2.1 dX7_worthOf_54 (by decide) ?_
        refine lv_iload_n F.1 F.2.1 dX7_worthOf_55 rfl (lv_at hl 1 rfl) ?_
        refine r_imul F dX7_worthOf_56 h (fun z4 h => ?_)
        exact r_ireturn F I ⟨hr.1, hr.2.1, trivial⟩ h dX7_worthOf_57
      · rw [if_neg c2] at h
        by_cases c3 : a0 = (4 : Int32)
        · rw [if_pos c3] at h
          refine lv_tableIn (off := 44) (tgt := 61) F.1 F.2.1 dX7_worthOf_17 (by rw [c3]; decide) (by rw [c3]; decide) (by rw [c3]; rfl) (by decide) ?_
          refine lv_iload F.1 F.2.1 dX7_worthOf_61 (lv_at hl 0 rfl) ?_
          refine lv_bipush (v := 8) F.1 F.2.1 dX7_worthOf_63 (by decide) ?_
          refine r_isub F dX7_worthOf_65 h (fun z5 h => ?_)
          exact r_ireturn F I ⟨hr.1, hr.2.1, trivial⟩ h dX7_worthOf_66
        · rw [if_neg c3] at h
          by_cases c4 : a0 = (5 : Int32)
          · rw [if_pos c4] at h
            refine lv_tableIn (off := 50) (tgt := 67) F.1 F.2.1 dX7_worthOf_17 (by rw [c4]; decide) (by rw [c4]; decide) (by rw [c4]; rfl) (by decide) ?_
            refine lv_iconst (v := 5) F.1 F.2.1 dX7_worthOf_67 (by decide) ?_
            exact r_ireturn F I ⟨hr.1, hr.2.1, trivial⟩ h dX7_worthOf_68
          · rw [if_neg c4] at h
            have e0 := lv_neT (a := 1) c0 (by decide)
            have e1 := lv_neT (a := 2) c1 (by decide)
            have e2 := lv_neT (a := 3) c2 (by decide)
            have e3 := lv_neT (a := 4) c3 (by decide)
            have e4 := lv_neT (a := 5) c4 (by decide)
            refine lv_tableOut (tgt := 69) F.1 F.2.1 dX7_worthOf_17 (by omega) (by decide) ?_
            refine lv_iload_n F.1 F.2.1 dX7_worthOf_69 rfl (lv_at hl 2 rfl) ?_
            exact r_ireturn F I ⟨hr.1, hr.2.1, trivial⟩ h dX7_worthOf_70
theorem bdX4_lookAt_0 : ∀ q ∈ ([(0, .aload_n 0, 1), (1, .aload_n 1, 1), (2, .putfield 25, 3), (5, .aload_n 0, 1), (6, .aload_n 1, 1), (7, .iconst 0, 1), (8, .invokevirtual 37, 3), (11, .putfield 29, 3), (14, .aload_n 0, 1), (15, .aload_n 1, 1), (16, .invokevirtual 41, 3), (19, .putfield 33, 3), (22, .return_, 1)] : List (Nat × Jvm.ClassFile.Instr × Nat)), decode cX4_lookAt q.1 = .ok q.2 := chk_ok _ 0 _ rfl (by decide +kernel)
theorem dX4_lookAt_0 : decode cX4_lookAt 0 = .ok (.aload_n 0, 1) := bdX4_lookAt_0 (0, .aload_n 0, 1) (List.mem_of_getElem? (i := 0) rfl)
theorem dX4_lookAt_1 : decode cX4_lookAt 1 = .ok (.aload_n 1, 1) := bdX4_lookAt_0 (1, .aload_n 1, 1) (List.mem_of_getElem? (i := 1) rfl)
theorem dX4_lookAt_2 : decode cX4_lookAt 2 = .ok (.putfield 25, 3) := bdX4_lookAt_0 (2, .putfield 25, 3) (List.mem_of_getElem? (i := 2) rfl)
theorem dX4_lookAt_5 : decode cX4_lookAt 5 = .ok (.aload_n 0, 1) := bdX4_lookAt_0 (5, .aload_n 0, 1) (List.mem_of_getElem? (i := 3) rfl)
theorem dX4_lookAt_6 : decode cX4_lookAt 6 = .ok (.aload_n 1, 1) := bdX4_lookAt_0 (6, .aload_n 1, 1) (List.mem_of_getElem? (i := 4) rfl)
theorem dX4_lookAt_7 : decode cX4_lookAt 7 = .ok (.iconst 0, 1) := bdX4_lookAt_0 (7, .iconst 0, 1) (List.mem_of_getElem? (i := 5) rfl)
theorem dX4_lookAt_8 : decode cX4_lookAt 8 = .ok (.invokevirtual 37, 3) := bdX4_lookAt_0 (8, .invokevirtual 37, 3) (List.mem_of_getElem? (i := 6) rfl)
theorem dX4_lookAt_11 : decode cX4_lookAt 11 = .ok (.putfield 29, 3) := bdX4_lookAt_0 (11, .putfield 29, 3) (List.mem_of_getElem? (i := 7) rfl)
theorem dX4_lookAt_14 : decode cX4_lookAt 14 = .ok (.aload_n 0, 1) := bdX4_lookAt_0 (14, .aload_n 0, 1) (List.mem_of_getElem? (i := 8) rfl)
theorem dX4_lookAt_15 : decode cX4_lookAt 15 = .ok (.aload_n 1, 1) := bdX4_lookAt_0 (15, .aload_n 1, 1) (List.mem_of_getElem? (i := 9) rfl)
theorem dX4_lookAt_16 : decode cX4_lookAt 16 = .ok (.invokevirtual 41, 3) := bdX4_lookAt_0 (16, .invokevirtual 41, 3) (List.mem_of_getElem? (i := 10) rfl)
theorem dX4_lookAt_19 : decode cX4_lookAt 19 = .ok (.putfield 33, 3) := bdX4_lookAt_0 (19, .putfield 33, 3) (List.mem_of_getElem? (i := 11) rfl)
theorem dX4_lookAt_22 : decode cX4_lookAt 22 = .ok (.return_, 1) := bdX4_lookAt_0 (22, .return_, 1) (List.mem_of_getElem? (i := 12) rfl)
theorem fX4_25 : fldOK RX4 25 4 3 (.object "LionShield$Land") false := ⟨_, _, _, tyX4, ⟨rfl, iX4, by decide, rfl, by decide⟩, tw_160, ⟨tyX4_ok, nmX4⟩, by decide +kernel, rfl, rfl⟩
theorem kX4_37 : mthV RX4 37 0 yX0_lawFor prog_2_method_19_code 3 (Option.some (Jvm.ClassFile.FieldType.object "LionShield$Law")) 1 := ⟨⟨⟨tw_369, tw_61, tw_372⟩, rfl, by decide +kernel⟩, tw_370, tw_371, rfl⟩
theorem fX4_29 : fldOK RX4 29 4 4 (.object "LionShield$Law") false := ⟨_, _, _, tyX4, ⟨rfl, iX4, by decide, rfl, by decide⟩, tw_161, ⟨tyX4_ok, nmX4⟩, by decide +kernel, rfl, rfl⟩
theorem kX4_41 : mthV RX4 41 0 yX0_heiresses prog_2_method_15_code 3 (Option.some Jvm.ClassFile.FieldType.int) 0 := ⟨⟨⟨tw_380, tw_61, tw_383⟩, rfl, by decide +kernel⟩, tw_381, tw_382, rfl⟩
theorem fX4_33 : fldOK RX4 33 4 5 .int false := ⟨_, _, _, tyX4, ⟨rfl, iX4, by decide, rfl, by decide⟩, tw_162, ⟨tyX4_ok, nmX4⟩, by decide +kernel, rfl, rfl⟩
def wpX4_lookAt (ln : Nat → Nat) (S : HC) (a0 : Nat) (a1 : Nat) (post : HC → Prop) : Prop := lt_ (sR S a0 3 (some a1)) fun S => wpX0_lawFor ln S a1 (0 : Int32) fun o1 S => lt_ (sR S a0 4 o1) fun S => wpX0_heiresses ln S a1 fun z2 S => lt_ (sI S a0 5 z2) fun S => post S
abbrev rmX4_lookAt : Room := { frames := 3, cells := 0, slots := 0, locals := 65 }
set_option maxHeartbeats 4000000 in
set_option maxRecDepth 100000 in
theorem ctX4_lookAt {l : Launch} {g : GX} {N : Nat} {ln : Nat → Nat} {S : HC} {a0 : Nat} {a1 : Nat} {post : HC → Prop} (hr_a0 : a0 < N) (hk_a0 : kd a0 = 4) (hr_a1 : a1 < N) (hk_a1 : kd a1 = 0) (h : wpX4_lookAt ln S a0 a1 post) : Met l yX4_lookAt (Cond.code yX4_lookAt prog_6_method_2_code 2 (Option.none : Option Jvm.ClassFile.FieldType) :: gtbl) rmX4_lookAt (va_Pc [.ref (gz g + a0), .ref (gz g + a1)] (AtP g N ln S)) (QV g N ln post) 0 0 (gF g) := by
  refine m_of (by decide) (Nat.le_of_ble_eq_true rfl) ?_
  intro p e s m below meth c ls F hr I hl
  have hl : lv_has ls 2 [(0, .ref (gz g + a0)), (1, .ref (gz g + a1))] := hl
  unfold wpX4_lookAt at h
  refine lv_aload_n F.1 F.2.1 dX4_lookAt_0 rfl (lv_at hl 0 rfl) ?_
  refine lv_aload_n F.1 F.2.1 dX4_lookAt_1 rfl (lv_at hl 1 rfl) ?_
  refine r_putN F I hr_a0 hk_a0 fX4_25 (f := 0) rfl (by decide) (Or.inl rfl) hr_a1 hk_a1 (fun _ => ⟨⟨rfl, rfl⟩, rfl, rfl⟩) dX4_lookAt_2 h (fun S H locs I h => ?_)
  refine lv_aload_n F.1 F.2.1 dX4_lookAt_5 rfl (lv_at hl 0 rfl) ?_
  refine lv_aload_n F.1 F.2.1 dX4_lookAt_6 rfl (lv_at hl 1 rfl) ?_
  refine lv_iconst (v := 0) F.1 F.2.1 dX4_lookAt_7 (by decide) ?_
  refine g_O I (run_V (As := [.int (0 : Int32)]) (rest := [.ref (gz g + a0)]) F I hr_a1 hk_a1 (by decide) kX4_37 (ctX0_lawFor hr_a1 hk_a1 h) ⟨rfl, rfl⟩ ⟨Nat.le_of_ble_eq_true rfl, Nat.le_of_ble_eq_true rfl⟩ rfl hl.1 rfl (Nat.le_of_ble_eq_true rfl) ⟨Nat.le_of_ble_eq_true rfl, Nat.le_of_ble_eq_true rfl⟩ dX4_lookAt_8) (fun o1 S H locs ho_o1 I h => ?_)
  refine r_putO F I hr_a0 hk_a0 fX4_29 (f := 1) rfl (by decide) (Or.inl rfl) ho_o1 (fun _ => ⟨⟨rfl, rfl⟩, rfl, rfl⟩) dX4_lookAt_11 h (fun S H locs I h => ?_)
  refine lv_aload_n F.1 F.2.1 dX4_lookAt_14 rfl (lv_at hl 0 rfl) ?_
  refine lv_aload_n F.1 F.2.1 dX4_lookAt_15 rfl (lv_at hl 1 rfl) ?_
  refine g_I I (run_V (As := []) (rest := [.ref (gz g + a0)]) F I hr_a1 hk_a1 (by decide) kX4_41 (ctX0_heiresses hr_a1 hk_a1 h) ⟨rfl, rfl⟩ ⟨Nat.le_of_ble_eq_true rfl, Nat.le_of_ble_eq_true rfl⟩ rfl hl.1 rfl (Nat.le_of_ble_eq_true rfl) ⟨Nat.le_of_ble_eq_true rfl, Nat.le_of_ble_eq_true rfl⟩ dX4_lookAt_16) (fun z2 S H locs I h => ?_)
  refine r_putI F I hr_a0 hk_a0 fX4_33 rfl (Or.inl rfl) ⟨rfl, rfl⟩ dX4_lookAt_19 h (fun S H locs I h => ?_)
  exact r_vreturn F I ⟨hr.1, hr.2.1, trivial⟩ h dX4_lookAt_22
theorem bdX4_hidden_0 : ∀ q ∈ ([(0, .aload_n 0, 1), (1, .getfield 25, 3), (4, .iload_n 1, 1), (5, .invokevirtual 86, 3), (8, .ifCond .eq 10, 3), (11, .iload_n 2, 1), (12, .invokestatic 99, 3), (15, .ifCond .ne 5, 3), (18, .iconst 0, 1), (19, .ireturn, 1), (20, .aload_n 0, 1), (21, .getfield 9, 3), (24, .iload_n 2, 1), (25, .bipush 14, 2), (27, .imul, 1), (28, .iload_n 1, 1), (29, .iadd, 1), (30, .iaload, 1), (31, .ireturn, 1)] : List (Nat × Jvm.ClassFile.Instr × Nat)), decode cX4_hidden q.1 = .ok q.2 := chk_ok _ 0 _ rfl (by decide +kernel)
theorem dX4_hidden_0 : decode cX4_hidden 0 = .ok (.aload_n 0, 1) := bdX4_hidden_0 (0, .aload_n 0, 1) (List.mem_of_getElem? (i := 0) rfl)
theorem dX4_hidden_1 : decode cX4_hidden 1 = .ok (.getfield 25, 3) := bdX4_hidden_0 (1, .getfield 25, 3) (List.mem_of_getElem? (i := 1) rfl)
theorem dX4_hidden_4 : decode cX4_hidden 4 = .ok (.iload_n 1, 1) := bdX4_hidden_0 (4, .iload_n 1, 1) (List.mem_of_getElem? (i := 2) rfl)
theorem dX4_hidden_5 : decode cX4_hidden 5 = .ok (.invokevirtual 86, 3) := bdX4_hidden_0 (5, .invokevirtual 86, 3) (List.mem_of_getElem? (i := 3) rfl)
theorem dX4_hidden_8 : decode cX4_hidden 8 = .ok (.ifCond .eq 10, 3) := bdX4_hidden_0 (8, .ifCond .eq 10, 3) (List.mem_of_getElem? (i := 4) rfl)
theorem dX4_hidden_11 : decode cX4_hidden 11 = .ok (.iload_n 2, 1) := bdX4_hidden_0 (11, .iload_n 2, 1) (List.mem_of_getElem? (i := 5) rfl)
theorem dX4_hidden_12 : decode cX4_hidden 12 = .ok (.invokestatic 99, 3) := bdX4_hidden_0 (12, .invokestatic 99, 3) (List.mem_of_getElem? (i := 6) rfl)
theorem dX4_hidden_15 : decode cX4_hidden 15 = .ok (.ifCond .ne 5, 3) := bdX4_hidden_0 (15, .ifCond .ne 5, 3) (List.mem_of_getElem? (i := 7) rfl)
theorem dX4_hidden_18 : decode cX4_hidden 18 = .ok (.iconst 0, 1) := bdX4_hidden_0 (18, .iconst 0, 1) (List.mem_of_getElem? (i := 8) rfl)
theorem dX4_hidden_19 : decode cX4_hidden 19 = .ok (.ireturn, 1) := bdX4_hidden_0 (19, .ireturn, 1) (List.mem_of_getElem? (i := 9) rfl)
theorem dX4_hidden_20 : decode cX4_hidden 20 = .ok (.aload_n 0, 1) := bdX4_hidden_0 (20, .aload_n 0, 1) (List.mem_of_getElem? (i := 10) rfl)
theorem dX4_hidden_21 : decode cX4_hidden 21 = .ok (.getfield 9, 3) := bdX4_hidden_0 (21, .getfield 9, 3) (List.mem_of_getElem? (i := 11) rfl)
theorem dX4_hidden_24 : decode cX4_hidden 24 = .ok (.iload_n 2, 1) := bdX4_hidden_0 (24, .iload_n 2, 1) (List.mem_of_getElem? (i := 12) rfl)
theorem dX4_hidden_25 : decode cX4_hidden 25 = .ok (.bipush 14, 2) := bdX4_hidden_0 (25, .bipush 14, 2) (List.mem_of_getElem? (i := 13) rfl)
theorem dX4_hidden_27 : decode cX4_hidden 27 = .ok (.imul, 1) := bdX4_hidden_0 (27, .imul, 1) (List.mem_of_getElem? (i := 14) rfl)
theorem dX4_hidden_28 : decode cX4_hidden 28 = .ok (.iload_n 1, 1) := bdX4_hidden_0 (28, .iload_n 1, 1) (List.mem_of_getElem? (i := 15) rfl)
theorem dX4_hidden_29 : decode cX4_hidden 29 = .ok (.iadd, 1) := bdX4_hidden_0 (29, .iadd, 1) (List.mem_of_getElem? (i := 16) rfl)
theorem dX4_hidden_30 : decode cX4_hidden 30 = .ok (.iaload, 1) := bdX4_hidden_0 (30, .iaload, 1) (List.mem_of_getElem? (i := 17) rfl)
theorem dX4_hidden_31 : decode cX4_hidden 31 = .ok (.ireturn, 1) := bdX4_hidden_0 (31, .ireturn, 1) (List.mem_of_getElem? (i := 18) rfl)
theorem kX4_86 : mthV RX4 86 0 yX0_has prog_2_method_3_code 2 (Option.some Jvm.ClassFile.FieldType.boolean) 1 := ⟨⟨⟨tw_401, tw_61, tw_333⟩, rfl, by decide +kernel⟩, tw_331, tw_332, rfl⟩
theorem kX4_99 : nstS RX4 99 yX7_isCharge prog_1_method_48_code 1 (Option.some Jvm.ClassFile.FieldType.boolean) 1 := ⟨⟨List.mem_of_getElem? (i := 8) rfl, tw_60, tw_337⟩, by decide +kernel, tw_336⟩
theorem fX4_9 : fldOK RX4 9 4 0 (.array .int) true := ⟨_, _, _, tyX4, ⟨rfl, iX4, by decide, rfl, by decide⟩, tw_157, ⟨tyX4_ok, nmX4⟩, by decide +kernel, rfl, rfl⟩
def BX4_hidden_18 (ln : Nat → Nat) (post : Int32 → HC → Prop) (S : HC)  : Prop := post (0 : Int32) S
def wpX4_hidden (ln : Nat → Nat) (S : HC) (a0 : Nat) (a1 : Int32) (a2 : Int32) (post : Int32 → HC → Prop) : Prop := dn_ (hR S a0 3) fun b1 => wpX0_has ln S b1 a1 fun z2 S => if z2 = 0 then (BX4_hidden_18 ln post S) else (wpX7_isCharge ln S a2 fun z3 S => if z3 = 0 then (BX4_hidden_18 ln post S) else (dn_ (hR S a0 0) fun b4 => lt_ (a2 * (14 : Int32)) fun z5 => lt_ (z5 + a1) fun z6 => al_ (ln b4) z6 (hI S b4) fun z7 => post z7 S))
abbrev rmX4_hidden : Room := { frames := 1, cells := 0, slots := 0, locals := 21 }
set_option maxHeartbeats 4000000 in
set_option maxRecDepth 100000 in
theorem ctX4_hidden {l : Launch} {g : GX} {N : Nat} {ln : Nat → Nat} {S : HC} {a0 : Nat} {a1 : Int32} {a2 : Int32} {post : Int32 → HC → Prop} (hr_a0 : a0 < N) (hk_a0 : kd a0 = 4) (h : wpX4_hidden ln S a0 a1 a2 post) : Met l yX4_hidden (Cond.code yX4_hidden prog_6_method_8_code 3 (Option.some Jvm.ClassFile.FieldType.int) :: gtbl) rmX4_hidden (va_Pc [.ref (gz g + a0), .int a1, .int a2] (AtP g N ln S)) (QI g N ln post) 0 0 (gF g) := by
  refine m_of (by decide) (Nat.le_of_ble_eq_true rfl) ?_
  intro p e s m below meth c ls F hr I hl
  have hl : lv_has ls 3 [(0, .ref (gz g + a0)), (1, .int a1), (2, .int a2)] := hl
  unfold wpX4_hidden at h
  have hj_18 : ∀ (S : HC) (H : Heap) (locs : List Loc) (ls : Array Slot), BX4_hidden_18 ln post S  → Inv g N ln S s H locs → lv_has ls 3 [] → W p l e rmX4_hidden s m ([.ref (gz g + a0), .int a1, .int a2] : List Value).toArray below meth c H locs 0 0 (MQ below (QI g N ln post) ([.ref (gz g + a0), .int a1, .int a2] : List Value).toArray s 0 0 (gF g)) (F0 m 18 ls []) := by
    intro S H locs ls h I hl
    unfold BX4_hidden_18 at h
    refine lv_iconst (v := 0) F.1 F.2.1 dX4_hidden_18 (by decide) ?_
    exact r_ireturn F I ⟨hr.1, hr.2.1, trivial⟩ h dX4_hidden_19
  refine lv_aload_n F.1 F.2.1 dX4_hidden_0 rfl (lv_at hl 0 rfl) ?_
  refine r_getN F I hr_a0 hk_a0 fX4_25 (f := 0) rfl (by decide) dX4_hidden_1 h (fun b1 hr_b1 hk_b1 h => ?_)
  refine lv_iload_n F.1 F.2.1 dX4_hidden_4 rfl (lv_at hl 1 rfl) ?_
  refine g_I I (run_V (As := [.int a1]) (rest := []) F I hr_b1 hk_b1 (by decide) kX4_86 (ctX0_has hr_b1 hk_b1 h) ⟨rfl, rfl⟩ ⟨Nat.le_of_ble_eq_true rfl, Nat.le_of_ble_eq_true rfl⟩ rfl hl.1 rfl (Nat.le_of_ble_eq_true rfl) ⟨Nat.le_of_ble_eq_true rfl, Nat.le_of_ble_eq_true rfl⟩ dX4_hidden_5) (fun z2 S H locs I h => ?_)
  refine r_if_eq (tgt := 18) F dX4_hidden_8 (by decide) h (fun h => ?_) (fun h => ?_)
  · exact hj_18 S _ _ _   h I (lv_sub hl [] rfl)
  · refine lv_iload_n F.1 F.2.1 dX4_hidden_11 rfl (lv_at hl 2 rfl) ?_
    refine g_I I (run_NS (As := [.int a2]) (rest := []) F I kX4_99 (ctX7_isCharge h) ⟨rfl, rfl⟩ ⟨Nat.le_of_ble_eq_true rfl, Nat.le_of_ble_eq_true rfl⟩ rfl hl.1 rfl (Nat.le_of_ble_eq_true rfl) ⟨Nat.le_of_ble_eq_true rfl, Nat.le_of_ble_eq_true rfl⟩ dX4_hidden_12) (fun z3 S H locs I h => ?_)
    refine r_if_ne (tgt := 20) F dX4_hidden_15 (by decide) h (fun h => ?_) (fun h => ?_)
    · refine lv_aload_n F.1 F.2.1 dX4_hidden_20 rfl (lv_at hl 0 rfl) ?_
      refine r_getN F I hr_a0 hk_a0 fX4_9 (f := 9) rfl (by decide) dX4_hidden_21 h (fun b4 hr_b4 hk_b4 h => ?_)
      refine lv_iload_n F.1 F.2.1 dX4_hidden_24 rfl (lv_at hl 2 rfl) ?_
      refine lv_bipush (v := 14) F.1 F.2.1 dX4_hidden_25 (by decide) ?_
      refine r_imul F dX4_hidden_27 h (fun z5 h => ?_)
      refine lv_iload_n F.1 F.2.1 dX4_hidden_28 rfl (lv_at hl 1 rfl) ?_
      refine r_iadd F dX4_hidden_29 h (fun z6 h => ?_)
      refine r_ald F I hr_b4 hk_b4 dX4_hidden_30 h (fun z7 h => ?_)
      exact r_ireturn F I ⟨hr.1, hr.2.1, trivial⟩ h dX4_hidden_31
    · exact hj_18 S _ _ _   h I (lv_sub hl [] rfl)
theorem bdX4_joined_0 : ∀ q ∈ ([(0, .aload_n 0, 1), (1, .iload_n 1, 1), (2, .iload_n 3, 1), (3, .invokevirtual 77, 3), (6, .istore 4, 2), (8, .aload_n 0, 1), (9, .getfield 25, 3), (12, .iload_n 2, 1), (13, .invokevirtual 86, 3), (16, .ifCond .eq 19, 3), (19, .aload_n 0, 1), (20, .getfield 33, 3), (23, .iload_n 2, 1), (25, .iconst 1, 1), (26, .iand, 1), (27, .iconst 1, 1), (28, .if_icmp .ne 7, 3), (31, .iconst 1, 1), (32, .goto 4, 3), (35, .iconst 0, 1), (36, .istore 5, 2), (38, .iload 5, 2), (40, .ifCond .eq 12, 3), (43, .aload_n 0, 1), (44, .iload_n 2, 1), (45, .iload_n 3, 1), (46, .invokevirtual 77, 3), (49, .goto 5, 3), (52, .iload 4, 2), (54, .istore 6, 2), (56, .aload_n 0, 1), (57, .getfield 29, 3), (63, .iload 4, 2), (65, .iload 6, 2), (67, .iadd, 1), (68, .iconst 2, 1), (70, .goto 19, 3), (73, .aload_n 0, 1), (74, .getfield 29, 3), (77, .iload 4, 2)] : List (Nat × Jvm.ClassFile.Instr × Nat)), decode cX4_joined q.1 = .ok q.2 := chk_ok _ 0 _ rfl (by decide +kernel)
theorem dX4_joined_0 : decode cX4_joined 0 = .ok (.aload_n 0, 1) := bdX4_joined_0 (0, .aload_n 0, 1) (List.mem_of_getElem? (i := 0) rfl)
theorem dX4_joined_1 : decode cX4_joined 1 = .ok (.iload_n 1, 1) := bdX4_joined_0 (1, .iload_n 1, 1) (List.mem_of_getElem? (i := 1) rfl)
theorem dX4_joined_2 : decode cX4_joined 2 = .ok (.iload_n 3, 1) := bdX4_joined_0 (2, .iload_n 3, 1) (List.mem_of_getElem? (i := 2) rfl)
theorem dX4_joined_3 : decode cX4_joined 3 = .ok (.invokevirtual 77, 3) := bdX4_joined_0 (3, .invokevirtual 77, 3) (List.mem_of_getElem? (i := 3) rfl)
theorem dX4_joined_6 : decode cX4_joined 6 = .ok (.istore 4, 2) := bdX4_joined_0 (6, .istore 4, 2) (List.mem_of_getElem? (i := 4) rfl)
theorem dX4_joined_8 : decode cX4_joined 8 = .ok (.aload_n 0, 1) := bdX4_joined_0 (8, .aload_n 0, 1) (List.mem_of_getElem? (i := 5) rfl)
theorem dX4_joined_9 : decode cX4_joined 9 = .ok (.getfield 25, 3) := bdX4_joined_0 (9, .getfield 25, 3) (List.mem_of_getElem? (i := 6) rfl)
theorem dX4_joined_12 : decode cX4_joined 12 = .ok (.iload_n 2, 1) := bdX4_joined_0 (12, .iload_n 2, 1) (List.mem_of_getElem? (i := 7) rfl)
theorem dX4_joined_13 : decode cX4_joined 13 = .ok (.invokevirtual 86, 3) := bdX4_joined_0 (13, .invokevirtual 86, 3) (List.mem_of_getElem? (i := 8) rfl)
theorem dX4_joined_16 : decode cX4_joined 16 = .ok (.ifCond .eq 19, 3) := bdX4_joined_0 (16, .ifCond .eq 19, 3) (List.mem_of_getElem? (i := 9) rfl)
theorem dX4_joined_19 : decode cX4_joined 19 = .ok (.aload_n 0, 1) := bdX4_joined_0 (19, .aload_n 0, 1) (List.mem_of_getElem? (i := 10) rfl)
theorem dX4_joined_20 : decode cX4_joined 20 = .ok (.getfield 33, 3) := bdX4_joined_0 (20, .getfield 33, 3) (List.mem_of_getElem? (i := 11) rfl)
theorem dX4_joined_23 : decode cX4_joined 23 = .ok (.iload_n 2, 1) := bdX4_joined_0 (23, .iload_n 2, 1) (List.mem_of_getElem? (i := 12) rfl)
theorem dX4_joined_25 : decode cX4_joined 25 = .ok (.iconst 1, 1) := bdX4_joined_0 (25, .iconst 1, 1) (List.mem_of_getElem? (i := 13) rfl)
theorem dX4_joined_26 : decode cX4_joined 26 = .ok (.iand, 1) := bdX4_joined_0 (26, .iand, 1) (List.mem_of_getElem? (i := 14) rfl)
theorem dX4_joined_27 : decode cX4_joined 27 = .ok (.iconst 1, 1) := bdX4_joined_0 (27, .iconst 1, 1) (List.mem_of_getElem? (i := 15) rfl)
theorem dX4_joined_28 : decode cX4_joined 28 = .ok (.if_icmp .ne 7, 3) := bdX4_joined_0 (28, .if_icmp .ne 7, 3) (List.mem_of_getElem? (i := 16) rfl)
theorem dX4_joined_31 : decode cX4_joined 31 = .ok (.iconst 1, 1) := bdX4_joined_0 (31, .iconst 1, 1) (List.mem_of_getElem? (i := 17) rfl)
theorem dX4_joined_32 : decode cX4_joined 32 = .ok (.goto 4, 3) := bdX4_joined_0 (32, .goto 4, 3) (List.mem_of_getElem? (i := 18) rfl)
theorem dX4_joined_35 : decode cX4_joined 35 = .ok (.iconst 0, 1) := bdX4_joined_0 (35, .iconst 0, 1) (List.mem_of_getElem? (i := 19) rfl)
theorem dX4_joined_36 : decode cX4_joined 36 = .ok (.istore 5, 2) := bdX4_joined_0 (36, .istore 5, 2) (List.mem_of_getElem? (i := 20) rfl)
theorem dX4_joined_38 : decode cX4_joined 38 = .ok (.iload 5, 2) := bdX4_joined_0 (38, .iload 5, 2) (List.mem_of_getElem? (i := 21) rfl)
theorem dX4_joined_40 : decode cX4_joined 40 = .ok (.ifCond .eq 12, 3) := bdX4_joined_0 (40, .ifCond .eq 12, 3) (List.mem_of_getElem? (i := 22) rfl)
theorem dX4_joined_43 : decode cX4_joined 43 = .ok (.aload_n 0, 1) := bdX4_joined_0 (43, .aload_n 0, 1) (List.mem_of_getElem? (i := 23) rfl)
theorem dX4_joined_44 : decode cX4_joined 44 = .ok (.iload_n 2, 1) := bdX4_joined_0 (44, .iload_n 2, 1) (List.mem_of_getElem? (i := 24) rfl)
theorem dX4_joined_45 : decode cX4_joined 45 = .ok (.iload_n 3, 1) := bdX4_joined_0 (45, .iload_n 3, 1) (List.mem_of_getElem? (i := 25) rfl)
theorem dX4_joined_46 : decode cX4_joined 46 = .ok (.invokevirtual 77, 3) := bdX4_joined_0 (46, .invokevirtual 77, 3) (List.mem_of_getElem? (i := 26) rfl)
theorem dX4_joined_49 : decode cX4_joined 49 = .ok (.goto 5, 3) := bdX4_joined_0 (49, .goto 5, 3) (List.mem_of_getElem? (i := 27) rfl)
theorem dX4_joined_52 : decode cX4_joined 52 = .ok (.iload 4, 2) := bdX4_joined_0 (52, .iload 4, 2) (List.mem_of_getElem? (i := 28) rfl)
theorem dX4_joined_54 : decode cX4_joined 54 = .ok (.istore 6, 2) := bdX4_joined_0 (54, .istore 6, 2) (List.mem_of_getElem? (i := 29) rfl)
theorem dX4_joined_56 : decode cX4_joined 56 = .ok (.aload_n 0, 1) := bdX4_joined_0 (56, .aload_n 0, 1) (List.mem_of_getElem? (i := 30) rfl)
theorem dX4_joined_57 : decode cX4_joined 57 = .ok (.getfield 29, 3) := bdX4_joined_0 (57, .getfield 29, 3) (List.mem_of_getElem? (i := 31) rfl)
theorem dX4_joined_63 : decode cX4_joined 63 = .ok (.iload 4, 2) := bdX4_joined_0 (63, .iload 4, 2) (List.mem_of_getElem? (i := 32) rfl)
theorem dX4_joined_65 : decode cX4_joined 65 = .ok (.iload 6, 2) := bdX4_joined_0 (65, .iload 6, 2) (List.mem_of_getElem? (i := 33) rfl)
theorem dX4_joined_67 : decode cX4_joined 67 = .ok (.iadd, 1) := bdX4_joined_0 (67, .iadd, 1) (List.mem_of_getElem? (i := 34) rfl)
theorem dX4_joined_68 : decode cX4_joined 68 = .ok (.iconst 2, 1) := bdX4_joined_0 (68, .iconst 2, 1) (List.mem_of_getElem? (i := 35) rfl)
theorem dX4_joined_70 : decode cX4_joined 70 = .ok (.goto 19, 3) := bdX4_joined_0 (70, .goto 19, 3) (List.mem_of_getElem? (i := 36) rfl)
theorem dX4_joined_73 : decode cX4_joined 73 = .ok (.aload_n 0, 1) := bdX4_joined_0 (73, .aload_n 0, 1) (List.mem_of_getElem? (i := 37) rfl)
theorem dX4_joined_74 : decode cX4_joined 74 = .ok (.getfield 29, 3) := bdX4_joined_0 (74, .getfield 29, 3) (List.mem_of_getElem? (i := 38) rfl)
theorem dX4_joined_77 : decode cX4_joined 77 = .ok (.iload 4, 2) := bdX4_joined_0 (77, .iload 4, 2) (List.mem_of_getElem? (i := 39) rfl)
theorem bdX4_joined_79 : ∀ q ∈ ([(79, .iload 6, 2), (81, .iload_n 3, 1), (82, .aload_n 0, 1), (83, .getfield 19, 3), (86, .invokevirtual 90, 3), (89, .istore 7, 2), (91, .iload 7, 2), (93, .iconst 0, 1), (94, .bipush 64, 2), (96, .invokestatic 96, 3), (99, .ireturn, 1)] : List (Nat × Jvm.ClassFile.Instr × Nat)), decode cX4_joined q.1 = .ok q.2 := chk_ok _ 79 _ rfl (by decide +kernel)
theorem dX4_joined_79 : decode cX4_joined 79 = .ok (.iload 6, 2) := bdX4_joined_79 (79, .iload 6, 2) (List.mem_of_getElem? (i := 0) rfl)
theorem dX4_joined_81 : decode cX4_joined 81 = .ok (.iload_n 3, 1) := bdX4_joined_79 (81, .iload_n 3, 1) (List.mem_of_getElem? (i := 1) rfl)
theorem dX4_joined_82 : decode cX4_joined 82 = .ok (.aload_n 0, 1) := bdX4_joined_79 (82, .aload_n 0, 1) (List.mem_of_getElem? (i := 2) rfl)
theorem dX4_joined_83 : decode cX4_joined 83 = .ok (.getfield 19, 3) := bdX4_joined_79 (83, .getfield 19, 3) (List.mem_of_getElem? (i := 3) rfl)
theorem dX4_joined_86 : decode cX4_joined 86 = .ok (.invokevirtual 90, 3) := bdX4_joined_79 (86, .invokevirtual 90, 3) (List.mem_of_getElem? (i := 4) rfl)
theorem dX4_joined_89 : decode cX4_joined 89 = .ok (.istore 7, 2) := bdX4_joined_79 (89, .istore 7, 2) (List.mem_of_getElem? (i := 5) rfl)
theorem dX4_joined_91 : decode cX4_joined 91 = .ok (.iload 7, 2) := bdX4_joined_79 (91, .iload 7, 2) (List.mem_of_getElem? (i := 6) rfl)
theorem dX4_joined_93 : decode cX4_joined 93 = .ok (.iconst 0, 1) := bdX4_joined_79 (93, .iconst 0, 1) (List.mem_of_getElem? (i := 7) rfl)
theorem dX4_joined_94 : decode cX4_joined 94 = .ok (.bipush 64, 2) := bdX4_joined_79 (94, .bipush 64, 2) (List.mem_of_getElem? (i := 8) rfl)
theorem dX4_joined_96 : decode cX4_joined 96 = .ok (.invokestatic 96, 3) := bdX4_joined_79 (96, .invokestatic 96, 3) (List.mem_of_getElem? (i := 9) rfl)
theorem dX4_joined_99 : decode cX4_joined 99 = .ok (.ireturn, 1) := bdX4_joined_79 (99, .ireturn, 1) (List.mem_of_getElem? (i := 10) rfl)
theorem budX4_joined_24 : ∀ q ∈ ([(24, .ok (.ishr, 1)), (60, .ok (.ifnonnull 13, 3)), (69, .ok (.idiv, 1))] : List (Nat × Except Jvm.ClassFile.DecodeError (Jvm.ClassFile.Instr × Nat))), decode cX4_joined q.1 = q.2 := by decide +kernel
theorem dX4_joined_24 : decode cX4_joined 24 = .ok (.ishr, 1) := budX4_joined_24 (24, .ok (.ishr, 1)) (List.mem_of_getElem? (i := 0) rfl)
theorem dX4_joined_60 : decode cX4_joined 60 = .ok (.ifnonnull 13, 3) := budX4_joined_24 (60, .ok (.ifnonnull 13, 3)) (List.mem_of_getElem? (i := 1) rfl)
theorem dX4_joined_69 : decode cX4_joined 69 = .ok (.idiv, 1) := budX4_joined_24 (69, .ok (.idiv, 1)) (List.mem_of_getElem? (i := 2) rfl)
theorem kX4_96 : nstS RX4 96 yX7_within prog_1_method_51_code 3 (Option.some Jvm.ClassFile.FieldType.int) 3 := ⟨⟨List.mem_of_getElem? (i := 9) rfl, tw_60, tw_415⟩, by decide +kernel, tw_414⟩
theorem fX4_19 : fldOK RX4 19 4 2 (.array .int) true := ⟨_, _, _, tyX4, ⟨rfl, iX4, by decide, rfl, by decide⟩, tw_159, ⟨tyX4_ok, nmX4⟩, by decide +kernel, rfl, rfl⟩
theorem kX4_90 : mthV RX4 90 1 yX1_give prog_3_method_2_code 8 (Option.some Jvm.ClassFile.FieldType.int) 4 := ⟨⟨⟨tw_403, tw_69, tw_406⟩, rfl, by decide +kernel⟩, tw_404, tw_405, rfl⟩
theorem kX4_77 : mthV RX4 77 4 yX4_hidden prog_6_method_8_code 3 (Option.some Jvm.ClassFile.FieldType.int) 2 := ⟨⟨⟨tw_397, tw_62, tw_400⟩, rfl, by decide +kernel⟩, tw_399, tw_1, rfl⟩
def BX4_joined_89 (ln : Nat → Nat) (post : Int32 → HC → Prop) (S : HC) (t0 : Int32) : Prop := wpX7_within ln S t0 (0 : Int32) (64 : Int32) fun z1 S => post z1 S
def BX4_joined_54 (ln : Nat → Nat) (post : Int32 → HC → Prop) (S : HC) (x0 : Nat) (x3 : Int32) (x4 : Int32) (t0 : Int32) : Prop := lt_ (hR S x0 4) fun o2 => cO_ o2 (lt_ (x4 + t0) fun z4 => ne_ (2 : Int32) <| lt_ (z4 / (2 : Int32)) fun z5 => BX4_joined_89 ln post S z5) fun b3 => lt_ (hR S x0 4) fun o6 => dn_ (hR S x0 2) fun b7 => dn_ o6 fun b8 => wpX1_give ln S b8 x4 t0 x3 b7 fun z9 S => BX4_joined_89 ln post S z9
def BX4_joined_36 (ln : Nat → Nat) (post : Int32 → HC → Prop) (S : HC) (x0 : Nat) (x2 : Int32) (x3 : Int32) (x4 : Int32) (t0 : Int32) : Prop := if t0 = 0 then (BX4_joined_54 ln post S x0 x3 x4 x4) else (wpX4_hidden ln S x0 x2 x3 fun z10 S => BX4_joined_54 ln post S x0 x3 x4 z10)
def BX4_joined_35 (ln : Nat → Nat) (post : Int32 → HC → Prop) (S : HC) (x0 : Nat) (x2 : Int32) (x3 : Int32) (x4 : Int32) : Prop := BX4_joined_36 ln post S x0 x2 x3 x4 (0 : Int32)
def wpX4_joined (ln : Nat → Nat) (S : HC) (a0 : Nat) (a1 : Int32) (a2 : Int32) (a3 : Int32) (post : Int32 → HC → Prop) : Prop := wpX4_hidden ln S a0 a1 a3 fun z11 S => dn_ (hR S a0 3) fun b12 => wpX0_has ln S b12 a2 fun z13 S => if z13 = 0 then (BX4_joined_35 ln post S a0 a2 a3 z11) else (lt_ (hI S a0 5) fun z14 => lt_ (z14 >>> (a2 &&& 31)) fun z15 => lt_ (z15 &&& (1 : Int32)) fun z16 => if z16 = (1 : Int32) then (BX4_joined_36 ln post S a0 a2 a3 z11 (1 : Int32)) else (BX4_joined_35 ln post S a0 a2 a3 z11))
abbrev rmX4_joined : Room := { frames := 2, cells := 0, slots := 0, locals := 50 }
set_option maxHeartbeats 4000000 in
set_option maxRecDepth 100000 in
theorem ctX4_joined {l : Launch} {g : GX} {N : Nat} {ln : Nat → Nat} {S : HC} {a0 : Nat} {a1 : Int32} {a2 : Int32} {a3 : Int32} {post : Int32 → HC → Prop} (hr_a0 : a0 < N) (hk_a0 : kd a0 = 4) (h : wpX4_joined ln S a0 a1 a2 a3 post) : Met l yX4_joined (Cond.code yX4_joined prog_6_method_7_code 8 (Option.some Jvm.ClassFile.FieldType.int) :: gtbl) rmX4_joined (va_Pc [.ref (gz g + a0), .int a1, .int a2, .int a3] (AtP g N ln S)) (QI g N ln post) 0 0 (gF g) := by
  refine m_of (by decide) (Nat.le_of_ble_eq_true rfl) ?_
  intro p e s m below meth c ls F hr I hl
  have hl : lv_has ls 8 [(0, .ref (gz g + a0)), (1, .int a1), (2, .int a2), (3, .int a3)] := hl
  unfold wpX4_joined at h
  have hj_89 : ∀ (S : HC) (H : Heap) (locs : List Loc) (ls : Array Slot) (t0 : Int32), BX4_joined_89 ln post S t0 → Inv g N ln S s H locs → lv_has ls 8 [] → W p l e rmX4_joined s m ([.ref (gz g + a0), .int a1, .int a2, .int a3] : List Value).toArray below meth c H locs 0 0 (MQ below (QI g N ln post) ([.ref (gz g + a0), .int a1, .int a2, .int a3] : List Value).toArray s 0 0 (gF g)) (F0 m 89 ls [.int t0]) := by
    intro S H locs ls t0 h I hl
    unfold BX4_joined_89 at h
    refine lv_istore (lv' := [(7, .int t0)]) F.1 F.2.1 dX4_joined_89 hl (by decide) rfl (fun ls hl => ?_)
    refine lv_iload F.1 F.2.1 dX4_joined_91 (lv_at hl 0 rfl) ?_
    refine lv_iconst (v := 0) F.1 F.2.1 dX4_joined_93 (by decide) ?_
    refine lv_bipush (v := 64) F.1 F.2.1 dX4_joined_94 (by decide) ?_
    refine g_I I (run_NS (As := [.int t0, .int (0 : Int32), .int (64 : Int32)]) (rest := []) F I kX4_96 (ctX7_within h) ⟨rfl, rfl⟩ ⟨Nat.le_of_ble_eq_true rfl, Nat.le_of_ble_eq_true rfl⟩ rfl hl.1 rfl (Nat.le_of_ble_eq_true rfl) ⟨Nat.le_of_ble_eq_true rfl, Nat.le_of_ble_eq_true rfl⟩ dX4_joined_96) (fun z1 S H locs I h => ?_)
    exact r_ireturn F I ⟨hr.1, hr.2.1, trivial⟩ h dX4_joined_99
  have hj_54 : ∀ (S : HC) (H : Heap) (locs : List Loc) (ls : Array Slot) (x0 : Nat) (x3 : Int32) (x4 : Int32) (t0 : Int32), x0 < N → kd x0 = 4 → BX4_joined_54 ln post S x0 x3 x4 t0 → Inv g N ln S s H locs → lv_has ls 8 [(0, .ref (gz g + x0)), (3, .int x3), (4, .int x4)] → W p l e rmX4_joined s m ([.ref (gz g + a0), .int a1, .int a2, .int a3] : List Value).toArray below meth c H locs 0 0 (MQ below (QI g N ln post) ([.ref (gz g + a0), .int a1, .int a2, .int a3] : List Value).toArray s 0 0 (gF g)) (F0 m 54 ls [.int t0]) := by
    intro S H locs ls x0 x3 x4 t0 hr_x0 hk_x0 h I hl
    unfold BX4_joined_54 at h
    refine lv_istore (lv' := [(6, .int t0), (0, .ref (gz g + x0)), (3, .int x3), (4, .int x4)]) F.1 F.2.1 dX4_joined_54 hl (by decide) rfl (fun ls hl => ?_)
    refine lv_aload_n F.1 F.2.1 dX4_joined_56 rfl (lv_at hl 1 rfl) ?_
    refine r_getO F I hr_x0 hk_x0 fX4_29 (f := 1) rfl (by decide) dX4_joined_57 h (fun o2 ho_o2 h => ?_)
    refine r_ifnonnull (tgt := 73) (g := g) F dX4_joined_60 (by decide) h (fun q h => ?_) (fun b3 q h2 => ?_)
    · refine lv_iload F.1 F.2.1 dX4_joined_63 (lv_at hl 3 rfl) ?_
      refine lv_iload F.1 F.2.1 dX4_joined_65 (lv_at hl 0 rfl) ?_
      refine r_iadd F dX4_joined_67 h (fun z4 h => ?_)
      refine lv_iconst (v := 2) F.1 F.2.1 dX4_joined_68 (by decide) ?_
      refine r_idiv F dX4_joined_69 h (fun z5 h => ?_)
      refine lv_goto (tgt := 89) F.1 F.2.1 dX4_joined_70 (by decide) ?_
      exact hj_89 S _ _ _ z5  h I (lv_sub hl [] rfl)
    · obtain ⟨hr_b3, hk_b3⟩ := ho_o2 b3 q
      subst q
      clear h
      have h := h2
      clear h2
      refine lv_aload_n F.1 F.2.1 dX4_joined_73 rfl (lv_at hl 1 rfl) ?_
      refine r_getO F I hr_x0 hk_x0 fX4_29 (f := 1) rfl (by decide) dX4_joined_74 h (fun o6 ho_o6 h => ?_)
      refine lv_iload F.1 F.2.1 dX4_joined_77 (lv_at hl 3 rfl) ?_
      refine lv_iload F.1 F.2.1 dX4_joined_79 (lv_at hl 0 rfl) ?_
      refine lv_iload_n F.1 F.2.1 dX4_joined_81 rfl (lv_at hl 2 rfl) ?_
      refine lv_aload_n F.1 F.2.1 dX4_joined_82 rfl (lv_at hl 1 rfl) ?_
      refine r_getN F I hr_x0 hk_x0 fX4_19 (f := 9) rfl (by decide) dX4_joined_83 h (fun b7 hr_b7 hk_b7 h => ?_)
      obtain ⟨b8, q, h⟩ := h
      obtain ⟨hr_b8, hk_b8⟩ := ho_o6 b8 q
      revert h
      revert hl
      subst q
      intro hl
      intro h
      refine g_I I (run_V (As := [.int x4, .int t0, .int x3, .ref (gz g + b7)]) (rest := []) F I hr_b8 hk_b8 (by decide) kX4_90 (ctX1_give hr_b8 hk_b8 hr_b7 hk_b7 h) ⟨rfl, rfl⟩ ⟨Nat.le_of_ble_eq_true rfl, Nat.le_of_ble_eq_true rfl⟩ rfl hl.1 rfl (Nat.le_of_ble_eq_true rfl) ⟨Nat.le_of_ble_eq_true rfl, Nat.le_of_ble_eq_true rfl⟩ dX4_joined_86) (fun z9 S H locs I h => ?_)
      exact hj_89 S _ _ _ z9  h I (lv_sub hl [] rfl)
  have hj_36 : ∀ (S : HC) (H : Heap) (locs : List Loc) (ls : Array Slot) (x0 : Nat) (x2 : Int32) (x3 : Int32) (x4 : Int32) (t0 : Int32), x0 < N → kd x0 = 4 → BX4_joined_36 ln post S x0 x2 x3 x4 t0 → Inv g N ln S s H locs → lv_has ls 8 [(0, .ref (gz g + x0)), (2, .int x2), (3, .int x3), (4, .int x4)] → W p l e rmX4_joined s m ([.ref (gz g + a0), .int a1, .int a2, .int a3] : List Value).toArray below meth c H locs 0 0 (MQ below (QI g N ln post) ([.ref (gz g + a0), .int a1, .int a2, .int a3] : List Value).toArray s 0 0 (gF g)) (F0 m 36 ls [.int t0]) := by
    intro S H locs ls x0 x2 x3 x4 t0 hr_x0 hk_x0 h I hl
    unfold BX4_joined_36 at h
    refine lv_istore (lv' := [(5, .int t0), (0, .ref (gz g + x0)), (2, .int x2), (3, .int x3), (4, .int x4)]) F.1 F.2.1 dX4_joined_36 hl (by decide) rfl (fun ls hl => ?_)
    refine lv_iload F.1 F.2.1 dX4_joined_38 (lv_at hl 0 rfl) ?_
    refine r_if_eq (tgt := 52) F dX4_joined_40 (by decide) h (fun h => ?_) (fun h => ?_)
    · refine lv_iload F.1 F.2.1 dX4_joined_52 (lv_at hl 4 rfl) ?_
      exact hj_54 S _ _ _ x0 x3 x4 x4 hr_x0 hk_x0 h I (lv_sub hl [1, 3, 4] rfl)
    · refine lv_aload_n F.1 F.2.1 dX4_joined_43 rfl (lv_at hl 1 rfl) ?_
      refine lv_iload_n F.1 F.2.1 dX4_joined_44 rfl (lv_at hl 2 rfl) ?_
      refine lv_iload_n F.1 F.2.1 dX4_joined_45 rfl (lv_at hl 3 rfl) ?_
      refine g_I I (run_V (As := [.int x2, .int x3]) (rest := []) F I hr_x0 hk_x0 (by decide) kX4_77 (ctX4_hidden hr_x0 hk_x0 h) ⟨rfl, rfl⟩ ⟨Nat.le_of_ble_eq_true rfl, Nat.le_of_ble_eq_true rfl⟩ rfl hl.1 rfl (Nat.le_of_ble_eq_true rfl) ⟨Nat.le_of_ble_eq_true rfl, Nat.le_of_ble_eq_true rfl⟩ dX4_joined_46) (fun z10 S H locs I h => ?_)
      refine lv_goto (tgt := 54) F.1 F.2.1 dX4_joined_49 (by decide) ?_
      exact hj_54 S _ _ _ x0 x3 x4 z10 hr_x0 hk_x0 h I (lv_sub hl [1, 3, 4] rfl)
  have hj_35 : ∀ (S : HC) (H : Heap) (locs : List Loc) (ls : Array Slot) (x0 : Nat) (x2 : Int32) (x3 : Int32) (x4 : Int32), x0 < N → kd x0 = 4 → BX4_joined_35 ln post S x0 x2 x3 x4 → Inv g N ln S s H locs → lv_has ls 8 [(0, .ref (gz g + x0)), (2, .int x2), (3, .int x3), (4, .int x4)] → W p l e rmX4_joined s m ([.ref (gz g + a0), .int a1, .int a2, .int a3] : List Value).toArray below meth c H locs 0 0 (MQ below (QI g N ln post) ([.ref (gz g + a0), .int a1, .int a2, .int a3] : List Value).toArray s 0 0 (gF g)) (F0 m 35 ls []) := by
    intro S H locs ls x0 x2 x3 x4 hr_x0 hk_x0 h I hl
    unfold BX4_joined_35 at h
    refine lv_iconst (v := 0) F.1 F.2.1 dX4_joined_35 (by decide) ?_
    exact hj_36 S _ _ _ x0 x2 x3 x4 (0 : Int32) hr_x0 hk_x0 h I (lv_sub hl [0, 1, 2, 3] rfl)
  refine lv_aload_n F.1 F.2.1 dX4_joined_0 rfl (lv_at hl 0 rfl) ?_
  refine lv_iload_n F.1 F.2.1 dX4_joined_1 rfl (lv_at hl 1 rfl) ?_
  refine lv_iload_n F.1 F.2.1 dX4_joined_2 rfl (lv_at hl 3 rfl) ?_
  refine g_I I (run_V (As := [.int a1, .int a3]) (rest := []) F I hr_a0 hk_a0 (by decide) kX4_77 (ctX4_hidden hr_a0 hk_a0 h) ⟨rfl, rfl⟩ ⟨Nat.le_of_ble_eq_true rfl, Nat.le_of_ble_eq_true rfl⟩ rfl hl.1 rfl (Nat.le_of_ble_eq_true rfl) ⟨Nat.le_of_ble_eq_true rfl, Nat.le_of_ble_eq_true rfl⟩ dX4_joined_3) (fun z11 S H locs I h => ?_)
  refine lv_istore (lv' := [(4, .int z11), (0, .ref (gz g + a0)), (1, .int a1), (2, .int a2), (3, .int a3)]) F.1 F.2.1 dX4_joined_6 hl (by decide) rfl (fun ls hl => ?_)
  refine lv_aload_n F.1 F.2.1 dX4_joined_8 rfl (lv_at hl 1 rfl) ?_
  refine r_getN F I hr_a0 hk_a0 fX4_25 (f := 0) rfl (by decide) dX4_joined_9 h (fun b12 hr_b12 hk_b12 h => ?_)
  refine lv_iload_n F.1 F.2.1 dX4_joined_12 rfl (lv_at hl 3 rfl) ?_
  refine g_I I (run_V (As := [.int a2]) (rest := []) F I hr_b12 hk_b12 (by decide) kX4_86 (ctX0_has hr_b12 hk_b12 h) ⟨rfl, rfl⟩ ⟨Nat.le_of_ble_eq_true rfl, Nat.le_of_ble_eq_true rfl⟩ rfl hl.1 rfl (Nat.le_of_ble_eq_true rfl) ⟨Nat.le_of_ble_eq_true rfl, Nat.le_of_ble_eq_true rfl⟩ dX4_joined_13) (fun z13 S H locs I h => ?_)
  refine r_if_eq (tgt := 35) F dX4_joined_16 (by decide) h (fun h => ?_) (fun h => ?_)
  · exact hj_35 S _ _ _ a0 a2 a3 z11 hr_a0 hk_a0 h I (lv_sub hl [1, 3, 4, 0] rfl)
  · refine lv_aload_n F.1 F.2.1 dX4_joined_19 rfl (lv_at hl 1 rfl) ?_
    refine r_getI F I hr_a0 hk_a0 fX4_33 rfl dX4_joined_20 h (fun z14 h => ?_)
    refine lv_iload_n F.1 F.2.1 dX4_joined_23 rfl (lv_at hl 3 rfl) ?_
    refine r_ishr F dX4_joined_24 h (fun z15 h => ?_)
    refine lv_iconst (v := 1) F.1 F.2.1 dX4_joined_25 (by decide) ?_
    refine r_iand F dX4_joined_26 h (fun z16 h => ?_)
    refine lv_iconst (v := 1) F.1 F.2.1 dX4_joined_27 (by decide) ?_
    refine r_icmp_ne (tgt := 35) F dX4_joined_28 (by decide) h (fun h => ?_) (fun h => ?_)
    · exact hj_35 S _ _ _ a0 a2 a3 z11 hr_a0 hk_a0 h I (lv_sub hl [1, 3, 4, 0] rfl)
    · refine lv_iconst (v := 1) F.1 F.2.1 dX4_joined_31 (by decide) ?_
      refine lv_goto (tgt := 36) F.1 F.2.1 dX4_joined_32 (by decide) ?_
      exact hj_36 S _ _ _ a0 a2 a3 z11 (1 : Int32) hr_a0 hk_a0 h I (lv_sub hl [1, 3, 4, 0] rfl)
theorem bdX4_asHeir_0 : ∀ q ∈ ([(0, .aload_n 0, 1), (1, .getfield 25, 3), (4, .getfield 80, 3), (7, .iload_n 1, 1), (8, .iaload, 1), (9, .iconst (-1), 1), (10, .if_icmp .ne 23, 3), (13, .aload_n 0, 1), (14, .getfield 25, 3), (17, .getfield 68, 3), (20, .iload_n 1, 1), (21, .iaload, 1), (22, .iload_n 2, 1), (23, .if_icmp .ne 8, 3), (26, .bipush 64, 2), (28, .goto 4, 3), (31, .iconst 0, 1), (32, .ireturn, 1), (33, .aload_n 0, 1), (34, .aload_n 0, 1), (35, .getfield 25, 3), (38, .getfield 80, 3), (41, .iload_n 1, 1), (42, .iaload, 1), (43, .aload_n 0, 1), (44, .getfield 25, 3), (47, .getfield 74, 3), (50, .iload_n 1, 1), (51, .iaload, 1), (52, .iload_n 2, 1), (53, .invokevirtual 83, 3), (56, .ireturn, 1)] : List (Nat × Jvm.ClassFile.Instr × Nat)), decode cX4_asHeir q.1 = .ok q.2 := chk_ok _ 0 _ rfl (by decide +kernel)
theorem dX4_asHeir_0 : decode cX4_asHeir 0 = .ok (.aload_n 0, 1) := bdX4_asHeir_0 (0, .aload_n 0, 1) (List.mem_of_getElem? (i := 0) rfl)
theorem dX4_asHeir_1 : decode cX4_asHeir 1 = .ok (.getfield 25, 3) := bdX4_asHeir_0 (1, .getfield 25, 3) (List.mem_of_getElem? (i := 1) rfl)
theorem dX4_asHeir_4 : decode cX4_asHeir 4 = .ok (.getfield 80, 3) := bdX4_asHeir_0 (4, .getfield 80, 3) (List.mem_of_getElem? (i := 2) rfl)
theorem dX4_asHeir_7 : decode cX4_asHeir 7 = .ok (.iload_n 1, 1) := bdX4_asHeir_0 (7, .iload_n 1, 1) (List.mem_of_getElem? (i := 3) rfl)
theorem dX4_asHeir_8 : decode cX4_asHeir 8 = .ok (.iaload, 1) := bdX4_asHeir_0 (8, .iaload, 1) (List.mem_of_getElem? (i := 4) rfl)
theorem dX4_asHeir_9 : decode cX4_asHeir 9 = .ok (.iconst (-1), 1) := bdX4_asHeir_0 (9, .iconst (-1), 1) (List.mem_of_getElem? (i := 5) rfl)
theorem dX4_asHeir_10 : decode cX4_asHeir 10 = .ok (.if_icmp .ne 23, 3) := bdX4_asHeir_0 (10, .if_icmp .ne 23, 3) (List.mem_of_getElem? (i := 6) rfl)
theorem dX4_asHeir_13 : decode cX4_asHeir 13 = .ok (.aload_n 0, 1) := bdX4_asHeir_0 (13, .aload_n 0, 1) (List.mem_of_getElem? (i := 7) rfl)
theorem dX4_asHeir_14 : decode cX4_asHeir 14 = .ok (.getfield 25, 3) := bdX4_asHeir_0 (14, .getfield 25, 3) (List.mem_of_getElem? (i := 8) rfl)
theorem dX4_asHeir_17 : decode cX4_asHeir 17 = .ok (.getfield 68, 3) := bdX4_asHeir_0 (17, .getfield 68, 3) (List.mem_of_getElem? (i := 9) rfl)
theorem dX4_asHeir_20 : decode cX4_asHeir 20 = .ok (.iload_n 1, 1) := bdX4_asHeir_0 (20, .iload_n 1, 1) (List.mem_of_getElem? (i := 10) rfl)
theorem dX4_asHeir_21 : decode cX4_asHeir 21 = .ok (.iaload, 1) := bdX4_asHeir_0 (21, .iaload, 1) (List.mem_of_getElem? (i := 11) rfl)
theorem dX4_asHeir_22 : decode cX4_asHeir 22 = .ok (.iload_n 2, 1) := bdX4_asHeir_0 (22, .iload_n 2, 1) (List.mem_of_getElem? (i := 12) rfl)
theorem dX4_asHeir_23 : decode cX4_asHeir 23 = .ok (.if_icmp .ne 8, 3) := bdX4_asHeir_0 (23, .if_icmp .ne 8, 3) (List.mem_of_getElem? (i := 13) rfl)
theorem dX4_asHeir_26 : decode cX4_asHeir 26 = .ok (.bipush 64, 2) := bdX4_asHeir_0 (26, .bipush 64, 2) (List.mem_of_getElem? (i := 14) rfl)
theorem dX4_asHeir_28 : decode cX4_asHeir 28 = .ok (.goto 4, 3) := bdX4_asHeir_0 (28, .goto 4, 3) (List.mem_of_getElem? (i := 15) rfl)
theorem dX4_asHeir_31 : decode cX4_asHeir 31 = .ok (.iconst 0, 1) := bdX4_asHeir_0 (31, .iconst 0, 1) (List.mem_of_getElem? (i := 16) rfl)
theorem dX4_asHeir_32 : decode cX4_asHeir 32 = .ok (.ireturn, 1) := bdX4_asHeir_0 (32, .ireturn, 1) (List.mem_of_getElem? (i := 17) rfl)
theorem dX4_asHeir_33 : decode cX4_asHeir 33 = .ok (.aload_n 0, 1) := bdX4_asHeir_0 (33, .aload_n 0, 1) (List.mem_of_getElem? (i := 18) rfl)
theorem dX4_asHeir_34 : decode cX4_asHeir 34 = .ok (.aload_n 0, 1) := bdX4_asHeir_0 (34, .aload_n 0, 1) (List.mem_of_getElem? (i := 19) rfl)
theorem dX4_asHeir_35 : decode cX4_asHeir 35 = .ok (.getfield 25, 3) := bdX4_asHeir_0 (35, .getfield 25, 3) (List.mem_of_getElem? (i := 20) rfl)
theorem dX4_asHeir_38 : decode cX4_asHeir 38 = .ok (.getfield 80, 3) := bdX4_asHeir_0 (38, .getfield 80, 3) (List.mem_of_getElem? (i := 21) rfl)
theorem dX4_asHeir_41 : decode cX4_asHeir 41 = .ok (.iload_n 1, 1) := bdX4_asHeir_0 (41, .iload_n 1, 1) (List.mem_of_getElem? (i := 22) rfl)
theorem dX4_asHeir_42 : decode cX4_asHeir 42 = .ok (.iaload, 1) := bdX4_asHeir_0 (42, .iaload, 1) (List.mem_of_getElem? (i := 23) rfl)
theorem dX4_asHeir_43 : decode cX4_asHeir 43 = .ok (.aload_n 0, 1) := bdX4_asHeir_0 (43, .aload_n 0, 1) (List.mem_of_getElem? (i := 24) rfl)
theorem dX4_asHeir_44 : decode cX4_asHeir 44 = .ok (.getfield 25, 3) := bdX4_asHeir_0 (44, .getfield 25, 3) (List.mem_of_getElem? (i := 25) rfl)
theorem dX4_asHeir_47 : decode cX4_asHeir 47 = .ok (.getfield 74, 3) := bdX4_asHeir_0 (47, .getfield 74, 3) (List.mem_of_getElem? (i := 26) rfl)
theorem dX4_asHeir_50 : decode cX4_asHeir 50 = .ok (.iload_n 1, 1) := bdX4_asHeir_0 (50, .iload_n 1, 1) (List.mem_of_getElem? (i := 27) rfl)
theorem dX4_asHeir_51 : decode cX4_asHeir 51 = .ok (.iaload, 1) := bdX4_asHeir_0 (51, .iaload, 1) (List.mem_of_getElem? (i := 28) rfl)
theorem dX4_asHeir_52 : decode cX4_asHeir 52 = .ok (.iload_n 2, 1) := bdX4_asHeir_0 (52, .iload_n 2, 1) (List.mem_of_getElem? (i := 29) rfl)
theorem dX4_asHeir_53 : decode cX4_asHeir 53 = .ok (.invokevirtual 83, 3) := bdX4_asHeir_0 (53, .invokevirtual 83, 3) (List.mem_of_getElem? (i := 30) rfl)
theorem dX4_asHeir_56 : decode cX4_asHeir 56 = .ok (.ireturn, 1) := bdX4_asHeir_0 (56, .ireturn, 1) (List.mem_of_getElem? (i := 31) rfl)
theorem fX4_80 : fldOK RX4 80 0 1 (.array .int) true := ⟨_, _, _, tyX0, ⟨rfl, iX0, by decide, rfl, by decide⟩, tw_98, ⟨tyX0_ok, nmX0⟩, by decide +kernel, rfl, rfl⟩
theorem fX4_74 : fldOK RX4 74 0 2 (.array .int) true := ⟨_, _, _, tyX0, ⟨rfl, iX0, by decide, rfl, by decide⟩, tw_101, ⟨tyX0_ok, nmX0⟩, by decide +kernel, rfl, rfl⟩
theorem kX4_83 : mthV RX4 83 4 yX4_joined prog_6_method_7_code 8 (Option.some Jvm.ClassFile.FieldType.int) 3 := ⟨⟨⟨tw_393, tw_62, tw_396⟩, rfl, by decide +kernel⟩, tw_394, tw_395, rfl⟩
theorem fX4_68 : fldOK RX4 68 0 4 (.array .int) true := ⟨_, _, _, tyX0, ⟨rfl, iX0, by decide, rfl, by decide⟩, tw_106, ⟨tyX0_ok, nmX0⟩, by decide +kernel, rfl, rfl⟩
def wpX4_asHeir (ln : Nat → Nat) (S : HC) (a0 : Nat) (a1 : Int32) (a2 : Int32) (post : Int32 → HC → Prop) : Prop := dn_ (hR S a0 3) fun b1 => dn_ (hR S b1 1) fun b2 => al_ (ln b2) a1 (hI S b2) fun z3 => if z3 = (-1 : Int32) then (dn_ (hR S a0 3) fun b11 => dn_ (hR S b11 4) fun b12 => al_ (ln b12) a1 (hI S b12) fun z13 => if z13 = a2 then (post (64 : Int32) S) else (post (0 : Int32) S)) else (dn_ (hR S a0 3) fun b4 => dn_ (hR S b4 1) fun b5 => al_ (ln b5) a1 (hI S b5) fun z6 => dn_ (hR S a0 3) fun b7 => dn_ (hR S b7 2) fun b8 => al_ (ln b8) a1 (hI S b8) fun z9 => wpX4_joined ln S a0 z6 z9 a2 fun z10 S => post z10 S)
abbrev rmX4_asHeir : Room := { frames := 3, cells := 0, slots := 0, locals := 77 }
set_option maxHeartbeats 4000000 in
set_option maxRecDepth 100000 in
theorem ctX4_asHeir {l : Launch} {g : GX} {N : Nat} {ln : Nat → Nat} {S : HC} {a0 : Nat} {a1 : Int32} {a2 : Int32} {post : Int32 → HC → Prop} (hr_a0 : a0 < N) (hk_a0 : kd a0 = 4) (h : wpX4_asHeir ln S a0 a1 a2 post) : Met l yX4_asHeir (Cond.code yX4_asHeir prog_6_method_6_code 3 (Option.some Jvm.ClassFile.FieldType.int) :: gtbl) rmX4_asHeir (va_Pc [.ref (gz g + a0), .int a1, .int a2] (AtP g N ln S)) (QI g N ln post) 0 0 (gF g) := by
  refine m_of (by decide) (Nat.le_of_ble_eq_true rfl) ?_
  intro p e s m below meth c ls F hr I hl
  have hl : lv_has ls 3 [(0, .ref (gz g + a0)), (1, .int a1), (2, .int a2)] := hl
  unfold wpX4_asHeir at h
  refine lv_aload_n F.1 F.2.1 dX4_asHeir_0 rfl (lv_at hl 0 rfl) ?_
  refine r_getN F I hr_a0 hk_a0 fX4_25 (f := 0) rfl (by decide) dX4_asHeir_1 h (fun b1 hr_b1 hk_b1 h => ?_)
  refine r_getN F I hr_b1 hk_b1 fX4_80 (f := 9) rfl (by decide) dX4_asHeir_4 h (fun b2 hr_b2 hk_b2 h => ?_)
  refine lv_iload_n F.1 F.2.1 dX4_asHeir_7 rfl (lv_at hl 1 rfl) ?_
  refine r_ald F I hr_b2 hk_b2 dX4_asHeir_8 h (fun z3 h => ?_)
  refine lv_iconst (v := -1) F.1 F.2.1 dX4_asHeir_9 (by decide) ?_
  refine r_icmp_ne (tgt := 33) F dX4_asHeir_10 (by decide) h (fun h => ?_) (fun h => ?_)
  · refine lv_aload_n F.1 F.2.1 dX4_asHeir_33 rfl (lv_at hl 0 rfl) ?_
    refine lv_aload_n F.1 F.2.1 dX4_asHeir_34 rfl (lv_at hl 0 rfl) ?_
    refine r_getN F I hr_a0 hk_a0 fX4_25 (f := 0) rfl (by decide) dX4_asHeir_35 h (fun b4 hr_b4 hk_b4 h => ?_)
    refine r_getN F I hr_b4 hk_b4 fX4_80 (f := 9) rfl (by decide) dX4_asHeir_38 h (fun b5 hr_b5 hk_b5 h => ?_)
    refine lv_iload_n F.1 F.2.1 dX4_asHeir_41 rfl (lv_at hl 1 rfl) ?_
    refine r_ald F I hr_b5 hk_b5 dX4_asHeir_42 h (fun z6 h => ?_)
    refine lv_aload_n F.1 F.2.1 dX4_asHeir_43 rfl (lv_at hl 0 rfl) ?_
    refine r_getN F I hr_a0 hk_a0 fX4_25 (f := 0) rfl (by decide) dX4_asHeir_44 h (fun b7 hr_b7 hk_b7 h => ?_)
    refine r_getN F I hr_b7 hk_b7 fX4_74 (f := 9) rfl (by decide) dX4_asHeir_47 h (fun b8 hr_b8 hk_b8 h => ?_)
    refine lv_iload_n F.1 F.2.1 dX4_asHeir_50 rfl (lv_at hl 1 rfl) ?_
    refine r_ald F I hr_b8 hk_b8 dX4_asHeir_51 h (fun z9 h => ?_)
    refine lv_iload_n F.1 F.2.1 dX4_asHeir_52 rfl (lv_at hl 2 rfl) ?_
    refine g_I I (run_V (As := [.int z6, .int z9, .int a2]) (rest := []) F I hr_a0 hk_a0 (by decide) kX4_83 (ctX4_joined hr_a0 hk_a0 h) ⟨rfl, rfl⟩ ⟨Nat.le_of_ble_eq_true rfl, Nat.le_of_ble_eq_true rfl⟩ rfl hl.1 rfl (Nat.le_of_ble_eq_true rfl) ⟨Nat.le_of_ble_eq_true rfl, Nat.le_of_ble_eq_true rfl⟩ dX4_asHeir_53) (fun z10 S H locs I h => ?_)
    exact r_ireturn F I ⟨hr.1, hr.2.1, trivial⟩ h dX4_asHeir_56
  · refine lv_aload_n F.1 F.2.1 dX4_asHeir_13 rfl (lv_at hl 0 rfl) ?_
    refine r_getN F I hr_a0 hk_a0 fX4_25 (f := 0) rfl (by decide) dX4_asHeir_14 h (fun b11 hr_b11 hk_b11 h => ?_)
    refine r_getN F I hr_b11 hk_b11 fX4_68 (f := 9) rfl (by decide) dX4_asHeir_17 h (fun b12 hr_b12 hk_b12 h => ?_)
    refine lv_iload_n F.1 F.2.1 dX4_asHeir_20 rfl (lv_at hl 1 rfl) ?_
    refine r_ald F I hr_b12 hk_b12 dX4_asHeir_21 h (fun z13 h => ?_)
    refine lv_iload_n F.1 F.2.1 dX4_asHeir_22 rfl (lv_at hl 2 rfl) ?_
    refine r_icmp_ne (tgt := 31) F dX4_asHeir_23 (by decide) h (fun h => ?_) (fun h => ?_)
    · refine lv_iconst (v := 0) F.1 F.2.1 dX4_asHeir_31 (by decide) ?_
      exact r_ireturn F I ⟨hr.1, hr.2.1, trivial⟩ h dX4_asHeir_32
    · refine lv_bipush (v := 64) F.1 F.2.1 dX4_asHeir_26 (by decide) ?_
      refine lv_goto (tgt := 32) F.1 F.2.1 dX4_asHeir_28 (by decide) ?_
      exact r_ireturn F I ⟨hr.1, hr.2.1, trivial⟩ h dX4_asHeir_32
theorem bdX4_byKind_0 : ∀ q ∈ ([(0, .iconst 0, 1), (1, .iload_n 3, 1), (2, .iconst 2, 1), (3, .isub, 1), (4, .invokestatic 63, 3), (7, .istore 4, 2), (9, .aload_n 0, 1), (10, .getfield 25, 3), (13, .getfield 68, 3), (16, .iload_n 1, 1), (17, .iaload, 1), (18, .iload_n 2, 1), (19, .if_icmp .ne 7, 3), (22, .iconst 1, 1), (23, .goto 4, 3), (26, .iconst 0, 1), (27, .istore 5, 2), (29, .aload_n 0, 1), (30, .getfield 25, 3), (33, .getfield 71, 3), (36, .iload_n 1, 1), (37, .iaload, 1), (72, .iload 4, 2), (74, .ireturn, 1), (75, .iload 4, 2), (77, .iconst 2, 1), (79, .ireturn, 1), (80, .iload 5, 2), (82, .ifCond .eq 8, 3), (85, .bipush 64, 2), (87, .goto 4, 3), (90, .iload_n 3, 1), (91, .ireturn, 1), (92, .iload 5, 2), (94, .ifCond .eq 8, 3), (97, .bipush 8, 2), (99, .goto 4, 3), (102, .iconst 0, 1), (103, .ireturn, 1), (104, .aload_n 0, 1)] : List (Nat × Jvm.ClassFile.Instr × Nat)), decode cX4_byKind q.1 = .ok q.2 := chk_ok _ 0 _ rfl (by decide +kernel)
theorem dX4_byKind_0 : decode cX4_byKind 0 = .ok (.iconst 0, 1) := bdX4_byKind_0 (0, .iconst 0, 1) (List.mem_of_getElem? (i := 0) rfl)
theorem dX4_byKind_1 : decode cX4_byKind 1 = .ok (.iload_n 3, 1) := bdX4_byKind_0 (1, .iload_n 3, 1) (List.mem_of_getElem? (i := 1) rfl)
theorem dX4_byKind_2 : decode cX4_byKind 2 = .ok (.iconst 2, 1) := bdX4_byKind_0 (2, .iconst 2, 1) (List.mem_of_getElem? (i := 2) rfl)
theorem dX4_byKind_3 : decode cX4_byKind 3 = .ok (.isub, 1) := bdX4_byKind_0 (3, .isub, 1) (List.mem_of_getElem? (i := 3) rfl)
theorem dX4_byKind_4 : decode cX4_byKind 4 = .ok (.invokestatic 63, 3) := bdX4_byKind_0 (4, .invokestatic 63, 3) (List.mem_of_getElem? (i := 4) rfl)
theorem dX4_byKind_7 : decode cX4_byKind 7 = .ok (.istore 4, 2) := bdX4_byKind_0 (7, .istore 4, 2) (List.mem_of_getElem? (i := 5) rfl)
theorem dX4_byKind_9 : decode cX4_byKind 9 = .ok (.aload_n 0, 1) := bdX4_byKind_0 (9, .aload_n 0, 1) (List.mem_of_getElem? (i := 6) rfl)
theorem dX4_byKind_10 : decode cX4_byKind 10 = .ok (.getfield 25, 3) := bdX4_byKind_0 (10, .getfield 25, 3) (List.mem_of_getElem? (i := 7) rfl)
theorem dX4_byKind_13 : decode cX4_byKind 13 = .ok (.getfield 68, 3) := bdX4_byKind_0 (13, .getfield 68, 3) (List.mem_of_getElem? (i := 8) rfl)
theorem dX4_byKind_16 : decode cX4_byKind 16 = .ok (.iload_n 1, 1) := bdX4_byKind_0 (16, .iload_n 1, 1) (List.mem_of_getElem? (i := 9) rfl)
theorem dX4_byKind_17 : decode cX4_byKind 17 = .ok (.iaload, 1) := bdX4_byKind_0 (17, .iaload, 1) (List.mem_of_getElem? (i := 10) rfl)
theorem dX4_byKind_18 : decode cX4_byKind 18 = .ok (.iload_n 2, 1) := bdX4_byKind_0 (18, .iload_n 2, 1) (List.mem_of_getElem? (i := 11) rfl)
theorem dX4_byKind_19 : decode cX4_byKind 19 = .ok (.if_icmp .ne 7, 3) := bdX4_byKind_0 (19, .if_icmp .ne 7, 3) (List.mem_of_getElem? (i := 12) rfl)
theorem dX4_byKind_22 : decode cX4_byKind 22 = .ok (.iconst 1, 1) := bdX4_byKind_0 (22, .iconst 1, 1) (List.mem_of_getElem? (i := 13) rfl)
theorem dX4_byKind_23 : decode cX4_byKind 23 = .ok (.goto 4, 3) := bdX4_byKind_0 (23, .goto 4, 3) (List.mem_of_getElem? (i := 14) rfl)
theorem dX4_byKind_26 : decode cX4_byKind 26 = .ok (.iconst 0, 1) := bdX4_byKind_0 (26, .iconst 0, 1) (List.mem_of_getElem? (i := 15) rfl)
theorem dX4_byKind_27 : decode cX4_byKind 27 = .ok (.istore 5, 2) := bdX4_byKind_0 (27, .istore 5, 2) (List.mem_of_getElem? (i := 16) rfl)
theorem dX4_byKind_29 : decode cX4_byKind 29 = .ok (.aload_n 0, 1) := bdX4_byKind_0 (29, .aload_n 0, 1) (List.mem_of_getElem? (i := 17) rfl)
theorem dX4_byKind_30 : decode cX4_byKind 30 = .ok (.getfield 25, 3) := bdX4_byKind_0 (30, .getfield 25, 3) (List.mem_of_getElem? (i := 18) rfl)
theorem dX4_byKind_33 : decode cX4_byKind 33 = .ok (.getfield 71, 3) := bdX4_byKind_0 (33, .getfield 71, 3) (List.mem_of_getElem? (i := 19) rfl)
theorem dX4_byKind_36 : decode cX4_byKind 36 = .ok (.iload_n 1, 1) := bdX4_byKind_0 (36, .iload_n 1, 1) (List.mem_of_getElem? (i := 20) rfl)
theorem dX4_byKind_37 : decode cX4_byKind 37 = .ok (.iaload, 1) := bdX4_byKind_0 (37, .iaload, 1) (List.mem_of_getElem? (i := 21) rfl)
theorem dX4_byKind_72 : decode cX4_byKind 72 = .ok (.iload 4, 2) := bdX4_byKind_0 (72, .iload 4, 2) (List.mem_of_getElem? (i := 22) rfl)
theorem dX4_byKind_74 : decode cX4_byKind 74 = .ok (.ireturn, 1) := bdX4_byKind_0 (74, .ireturn, 1) (List.mem_of_getElem? (i := 23) rfl)
theorem dX4_byKind_75 : decode cX4_byKind 75 = .ok (.iload 4, 2) := bdX4_byKind_0 (75, .iload 4, 2) (List.mem_of_getElem? (i := 24) rfl)
theorem dX4_byKind_77 : decode cX4_byKind 77 = .ok (.iconst 2, 1) := bdX4_byKind_0 (77, .iconst 2, 1) (List.mem_of_getElem? (i := 25) rfl)
theorem dX4_byKind_79 : decode cX4_byKind 79 = .ok (.ireturn, 1) := bdX4_byKind_0 (79, .ireturn, 1) (List.mem_of_getElem? (i := 26) rfl)
theorem dX4_byKind_80 : decode cX4_byKind 80 = .ok (.iload 5, 2) := bdX4_byKind_0 (80, .iload 5, 2) (List.mem_of_getElem? (i := 27) rfl)
theorem dX4_byKind_82 : decode cX4_byKind 82 = .ok (.ifCond .eq 8, 3) := bdX4_byKind_0 (82, .ifCond .eq 8, 3) (List.mem_of_getElem? (i := 28) rfl)
theorem dX4_byKind_85 : decode cX4_byKind 85 = .ok (.bipush 64, 2) := bdX4_byKind_0 (85, .bipush 64, 2) (List.mem_of_getElem? (i := 29) rfl)
theorem dX4_byKind_87 : decode cX4_byKind 87 = .ok (.goto 4, 3) := bdX4_byKind_0 (87, .goto 4, 3) (List.mem_of_getElem? (i := 30) rfl)
theorem dX4_byKind_90 : decode cX4_byKind 90 = .ok (.iload_n 3, 1) := bdX4_byKind_0 (90, .iload_n 3, 1) (List.mem_of_getElem? (i := 31) rfl)
theorem dX4_byKind_91 : decode cX4_byKind 91 = .ok (.ireturn, 1) := bdX4_byKind_0 (91, .ireturn, 1) (List.mem_of_getElem? (i := 32) rfl)
theorem dX4_byKind_92 : decode cX4_byKind 92 = .ok (.iload 5, 2) := bdX4_byKind_0 (92, .iload 5, 2) (List.mem_of_getElem? (i := 33) rfl)
theorem dX4_byKind_94 : decode cX4_byKind 94 = .ok (.ifCond .eq 8, 3) := bdX4_byKind_0 (94, .ifCond .eq 8, 3) (List.mem_of_getElem? (i := 34) rfl)
theorem dX4_byKind_97 : decode cX4_byKind 97 = .ok (.bipush 8, 2) := bdX4_byKind_0 (97, .bipush 8, 2) (List.mem_of_getElem? (i := 35) rfl)
theorem dX4_byKind_99 : decode cX4_byKind 99 = .ok (.goto 4, 3) := bdX4_byKind_0 (99, .goto 4, 3) (List.mem_of_getElem? (i := 36) rfl)
theorem dX4_byKind_102 : decode cX4_byKind 102 = .ok (.iconst 0, 1) := bdX4_byKind_0 (102, .iconst 0, 1) (List.mem_of_getElem? (i := 37) rfl)
theorem dX4_byKind_103 : decode cX4_byKind 103 = .ok (.ireturn, 1) := bdX4_byKind_0 (103, .ireturn, 1) (List.mem_of_getElem? (i := 38) rfl)
theorem dX4_byKind_104 : decode cX4_byKind 104 = .ok (.aload_n 0, 1) := bdX4_byKind_0 (104, .aload_n 0, 1) (List.mem_of_getElem? (i := 39) rfl)
theorem bdX4_byKind_105 : ∀ q ∈ ([(105, .aload_n 0, 1), (106, .getfield 25, 3), (109, .getfield 74, 3), (112, .iload_n 1, 1), (113, .iaload, 1), (114, .iload_n 2, 1), (115, .invokevirtual 77, 3), (118, .ireturn, 1), (119, .iload_n 3, 1), (120, .ireturn, 1)] : List (Nat × Jvm.ClassFile.Instr × Nat)), decode cX4_byKind q.1 = .ok q.2 := chk_ok _ 105 _ rfl (by decide +kernel)
theorem dX4_byKind_105 : decode cX4_byKind 105 = .ok (.aload_n 0, 1) := bdX4_byKind_105 (105, .aload_n 0, 1) (List.mem_of_getElem? (i := 0) rfl)
theorem dX4_byKind_106 : decode cX4_byKind 106 = .ok (.getfield 25, 3) := bdX4_byKind_105 (106, .getfield 25, 3) (List.mem_of_getElem? (i := 1) rfl)
theorem dX4_byKind_109 : decode cX4_byKind 109 = .ok (.getfield 74, 3) := bdX4_byKind_105 (109, .getfield 74, 3) (List.mem_of_getElem? (i := 2) rfl)
theorem dX4_byKind_112 : decode cX4_byKind 112 = .ok (.iload_n 1, 1) := bdX4_byKind_105 (112, .iload_n 1, 1) (List.mem_of_getElem? (i := 3) rfl)
theorem dX4_byKind_113 : decode cX4_byKind 113 = .ok (.iaload, 1) := bdX4_byKind_105 (113, .iaload, 1) (List.mem_of_getElem? (i := 4) rfl)
theorem dX4_byKind_114 : decode cX4_byKind 114 = .ok (.iload_n 2, 1) := bdX4_byKind_105 (114, .iload_n 2, 1) (List.mem_of_getElem? (i := 5) rfl)
theorem dX4_byKind_115 : decode cX4_byKind 115 = .ok (.invokevirtual 77, 3) := bdX4_byKind_105 (115, .invokevirtual 77, 3) (List.mem_of_getElem? (i := 6) rfl)
theorem dX4_byKind_118 : decode cX4_byKind 118 = .ok (.ireturn, 1) := bdX4_byKind_105 (118, .ireturn, 1) (List.mem_of_getElem? (i := 7) rfl)
theorem dX4_byKind_119 : decode cX4_byKind 119 = .ok (.iload_n 3, 1) := bdX4_byKind_105 (119, .iload_n 3, 1) (List.mem_of_getElem? (i := 8) rfl)
theorem dX4_byKind_120 : decode cX4_byKind 120 = .ok (.ireturn, 1) := bdX4_byKind_105 (120, .ireturn, 1) (List.mem_of_getElem? (i := 9) rfl)
theorem dX4_byKind_38 : decode cX4_byKind 38 = .ok (.tableswitch 81 1 5 #[34, 42, 37, 54, 66], 34) := by decide +kernel
theorem dX4_byKind_78 : decode cX4_byKind 78 = .ok (.idiv, 1) := by decide +kernel
theorem fX4_71 : fldOK RX4 71 0 0 (.array .int) true := ⟨_, _, _, tyX0, ⟨rfl, iX0, by decide, rfl, by decide⟩, tw_95, ⟨tyX0_ok, nmX0⟩, by decide +kernel, rfl, rfl⟩
def BX4_byKind_27 (ln : Nat → Nat) (post : Int32 → HC → Prop) (S : HC) (x0 : Nat) (x1 : Int32) (x2 : Int32) (x3 : Int32) (x4 : Int32) (t0 : Int32) : Prop := dn_ (hR S x0 3) fun b1 => dn_ (hR S b1 0) fun b2 => al_ (ln b2) x1 (hI S b2) fun z3 => if z3 = (1 : Int32) then (post x4 S) else if z3 = (2 : Int32) then (if t0 = 0 then (post x3 S) else (post (64 : Int32) S)) else if z3 = (3 : Int32) then (ne_ (2 : Int32) <| lt_ (x4 / (2 : Int32)) fun z4 => post z4 S) else if z3 = (4 : Int32) then (if t0 = 0 then (post (0 : Int32) S) else (post (8 : Int32) S)) else if z3 = (5 : Int32) then (dn_ (hR S x0 3) fun b5 => dn_ (hR S b5 2) fun b6 => al_ (ln b6) x1 (hI S b6) fun z7 => wpX4_hidden ln S x0 z7 x2 fun z8 S => post z8 S) else post x3 S
def wpX4_byKind (ln : Nat → Nat) (S : HC) (a0 : Nat) (a1 : Int32) (a2 : Int32) (a3 : Int32) (post : Int32 → HC → Prop) : Prop := lt_ (a3 - (2 : Int32)) fun z9 => lt_ (if (0 : Int32) < z9 then z9 else (0 : Int32)) fun z10 => dn_ (hR S a0 3) fun b11 => dn_ (hR S b11 4) fun b12 => al_ (ln b12) a1 (hI S b12) fun z13 => if z13 = a2 then (BX4_byKind_27 ln post S a0 a1 a2 a3 z10 (1 : Int32)) else (BX4_byKind_27 ln post S a0 a1 a2 a3 z10 (0 : Int32))
abbrev rmX4_byKind : Room := { frames := 2, cells := 0, slots := 0, locals := 43 }
set_option maxHeartbeats 4000000 in
set_option maxRecDepth 100000 in
theorem ctX4_byKind {l : Launch} {g : GX} {N : Nat} {ln : Nat → Nat} {S : HC} {a0 : Nat} {a1 : Int32} {a2 : Int32} {a3 : Int32} {post : Int32 → HC → Prop} (hr_a0 : a0 < N) (hk_a0 : kd a0 = 4) (h : wpX4_byKind ln S a0 a1 a2 a3 post) : Met l yX4_byKind (Cond.code yX4_byKind prog_6_method_5_code 6 (Option.some Jvm.ClassFile.FieldType.int) :: gtbl) rmX4_byKind (va_Pc [.ref (gz g + a0), .int a1, .int a2, .int a3] (AtP g N ln S)) (QI g N ln post) 0 0 (gF g) := by
  refine m_of (by decide) (Nat.le_of_ble_eq_true rfl) ?_
  intro p e s m below meth c ls F hr I hl
  have hl : lv_has ls 6 [(0, .ref (gz g + a0)), (1, .int a1), (2, .int a2), (3, .int a3)] := hl
  unfold wpX4_byKind at h
  have hj_27 : ∀ (S : HC) (H : Heap) (locs : List Loc) (ls : Array Slot) (x0 : Nat) (x1 : Int32) (x2 : Int32) (x3 : Int32) (x4 : Int32) (t0 : Int32), x0 < N → kd x0 = 4 → BX4_byKind_27 ln post S x0 x1 x2 x3 x4 t0 → Inv g N ln S s H locs → lv_has ls 6 [(0, .ref (gz g + x0)), (1, .int x1), (2, .int x2), (3, .int x3), (4, .int x4)] → W p l e rmX4_byKind s m ([.ref (gz g + a0), .int a1, .int a2, .int a3] : List Value).toArray below meth c H locs 0 0 (MQ below (QI g N ln post) ([.ref (gz g + a0), .int a1, .int a2, .int a3] : List Value).toArray s 0 0 (gF g)) (F0 m 27 ls [.int t0]) := by
    intro S H locs ls x0 x1 x2 x3 x4 t0 hr_x0 hk_x0 h I hl
    unfold BX4_byKind_27 at h
    refine lv_istore (lv' := [(5, .int t0), (0, .ref (gz g + x0)), (1, .int x1), (2, .int x2), (3, .int x3), (4, .int x4)]) F.1 F.2.1 dX4_byKind_27 hl (by decide) rfl (fun ls hl => ?_)
    refine lv_aload_n F.1 F.2.1 dX4_byKind_29 rfl (lv_at hl 1 rfl) ?_
    refine r_getN F I hr_x0 hk_x0 fX4_25 (f := 0) rfl (by decide) dX4_byKind_30 h (fun b1 hr_b1 hk_b1 h => ?_)
    refine r_getN F I hr_b1 hk_b1 fX4_71 (f := 9) rfl (by decide) dX4_byKind_33 h (fun b2 hr_b2 hk_b2 h => ?_)
    refine lv_iload_n F.1 F.2.1 dX4_byKind_36 rfl (lv_at hl 2 rfl) ?_
    refine r_ald F I hr_b2 hk_b2 dX4_byKind_37 h (fun z3 h => ?_)
    by_cases c0 : z3 = (1 : Int32)
    · rw [if_pos c0] at h
      refine lv_tableIn (off := 34) (tgt := 72) F.1 F.2.1 dX4_byKind_38 (by rw [c0]; decide) (by rw [c0]; decide) (by rw [c0]; rfl) (by decide) ?_
      refine lv_iload F.1 F.2.1 dX4_byKind_72 (lv_at hl 5 rfl) ?_
      exact r_ireturn F I ⟨hr.1, hr.2.1, trivial⟩ h dX4_byKind_74
    · rw [if_neg c0] at h
      by_cases c1 : z3 = (2 : Int32)
      · rw [if_pos c1] at h
        refine lv_tableIn (off := 42) (tgt := 80) F.1 F.2.1 dX4_byKind_38 (by rw [c1]; decide) (by rw [c1]; decide) (by rw [c1]; rfl) (by decide) ?_
        refine lv_iload F.1 F.2.1 dX4_byKind_80 (lv_at hl 0 rfl) ?_
        refine r_if_eq (tgt := 90) F dX4_byKind_82 (by decide) h (fun h => ?_) (fun h => ?_)
        · refine lv_iload_n F.1 F.2.1 dX4_byKind_90 rfl (lv_at hl 4 rfl) ?_
          exact r_ireturn F I ⟨hr.1, hr.2.1, trivial⟩ h dX4_byKind_91
        · refine lv_bipush (v := 64) F.1 F.2.1 dX4_byKind_85 (by decide) ?_
          refine lv_goto (tgt := 91) F.1 F.2.1 dX4_byKind_87 (by decide) ?_
          exact r_ireturn F I ⟨hr.1, hr.2.1, trivial⟩ h dX4_byKind_91
      · rw [if_neg c1] at h
        by_cases c2 : z3 = (3 : Int32)
        · rw [if_pos c2] at h
          refine lv_tableIn (off := 37) (tgt := 75) F.1 F.2.1 dX4_byKind_38 (by rw [c2]; decide) (by rw [c2]; decide) (by rw [c2]; rfl) (by decide) ?_
          refine lv_iload F.1 F.2.1 dX4_byKind_75 (lv_at hl 5 rfl) ?_
          refine lv_iconst (v := 2) F.1 F.2.1 dX4_byKind_77 (by decide) ?_
          refine r_idiv F dX4_byKind_78 h (fun z4 h => ?_)
          exact r_ireturn F I ⟨hr.1, hr.2.1, trivial⟩ h dX4_byKind_79
        · rw [if_neg c2] at h
          by_cases c3 : z3 = (4 : Int32)
          · rw [if_pos c3] at h
            refine lv_tableIn (off := 54) (tgt := 92) F.1 F.2.1 dX4_byKind_38 (by rw [c3]; decide) (by rw [c3]; decide) (by rw [c3]; rfl) (by decide) ?_
            refine lv_iload F.1 F.2.1 dX4_byKind_92 (lv_at hl 0 rfl) ?_
            refine r_if_eq (tgt := 102) F dX4_byKind_94 (by decide) h (fun h => ?_) (fun h => ?_)
            · refine lv_iconst (v := 0) F.1 F.2.1 dX4_byKind_102 (by decide) ?_
              exact r_ireturn F I ⟨hr.1, hr.2.1, trivial⟩ h dX4_byKind_103
            · refine lv_bipush (v := 8) F.1 F.2.1 dX4_byKind_97 (by decide) ?_
              refine lv_goto (tgt := 103) F.1 F.2.1 dX4_byKind_99 (by decide) ?_
              exact r_ireturn F I ⟨hr.1, hr.2.1, trivial⟩ h dX4_byKind_103
          · rw [if_neg c3] at h
            by_cases c4 : z3 = (5 : Int32)
            · rw [if_pos c4] at h
              refine lv_tableIn (off := 66) (tgt := 104) F.1 F.2.1 dX4_byKind_38 (by rw [c4]; decide) (by rw [c4]; decide) (by rw [c4]; rfl) (by decide) ?_
              refine lv_aload_n F.1 F.2.1 dX4_byKind_104 rfl (lv_at hl 1 rfl) ?_
              refine lv_aload_n F.1 F.2.1 dX4_byKind_105 rfl (lv_at hl 1 rfl) ?_
              refine r_getN F I hr_x0 hk_x0 fX4_25 (f := 0) rfl (by decide) dX4_byKind_106 h (fun b5 hr_b5 hk_b5 h => ?_)
              refine r_getN F I hr_b5 hk_b5 fX4_74 (f := 9) rfl (by decide) dX4_byKind_109 h (fun b6 hr_b6 hk_b6 h => ?_)
              refine lv_iload_n F.1 F.2.1 dX4_byKind_112 rfl (lv_at hl 2 rfl) ?_
              refine r_ald F I hr_b6 hk_b6 dX4_byKind_113 h (fun z7 h => ?_)
              refine lv_iload_n F.1 F.2.1 dX4_byKind_114 rfl (lv_at hl 3 rfl) ?_
              refine g_I I (run_V (As := [.int z7, .int x2]) (rest := []) F I hr_x0 hk_x0 (by decide) kX4_77 (ctX4_hidden hr_x0 hk_x0 h) ⟨rfl, rfl⟩ ⟨Nat.le_of_ble_eq_true rfl, Nat.le_of_ble_eq_true rfl⟩ rfl hl.1 rfl (Nat.le_of_ble_eq_true rfl) ⟨Nat.le_of_ble_eq_true rfl, Nat.le_of_ble_eq_true rfl⟩ dX4_byKind_115) (fun z8 S H locs I h => ?_)
              exact r_ireturn F I ⟨hr.1, hr.2.1, trivial⟩ h dX4_byKind_118
            · rw [if_neg c4] at h
              have e0 := lv_neT (a := 1) c0 (by decide)
              have e1 := lv_neT (a := 2) c1 (by decide)
              have e2 := lv_neT (a := 3) c2 (by decide)
              have e3 := lv_neT (a := 4) c3 (by decide)
              have e4 := lv_neT (a := 5) c4 (by decide)
              refine lv_tableOut (tgt := 119) F.1 F.2.1 dX4_byKind_38 (by omega) (by decide) ?_
              refine lv_iload_n F.1 F.2.1 dX4_byKind_119 rfl (lv_at hl 4 rfl) ?_
              exact r_ireturn F I ⟨hr.1, hr.2.1, trivial⟩ h dX4_byKind_120
  refine lv_iconst (v := 0) F.1 F.2.1 dX4_byKind_0 (by decide) ?_
  refine lv_iload_n F.1 F.2.1 dX4_byKind_1 rfl (lv_at hl 3 rfl) ?_
  refine lv_iconst (v := 2) F.1 F.2.1 dX4_byKind_2 (by decide) ?_
  refine r_isub F dX4_byKind_3 h (fun z9 h => ?_)
  refine r_mmax F hl.1 tw_424 (Nat.le_of_ble_eq_true rfl) (Nat.le_of_ble_eq_true rfl) (Nat.zero_le _) (Nat.zero_le _) dX4_byKind_4 h (fun z10 h => ?_)
  refine lv_istore (lv' := [(4, .int z10), (0, .ref (gz g + a0)), (1, .int a1), (2, .int a2), (3, .int a3)]) F.1 F.2.1 dX4_byKind_7 hl (by decide) rfl (fun ls hl => ?_)
  refine lv_aload_n F.1 F.2.1 dX4_byKind_9 rfl (lv_at hl 1 rfl) ?_
  refine r_getN F I hr_a0 hk_a0 fX4_25 (f := 0) rfl (by decide) dX4_byKind_10 h (fun b11 hr_b11 hk_b11 h => ?_)
  refine r_getN F I hr_b11 hk_b11 fX4_68 (f := 9) rfl (by decide) dX4_byKind_13 h (fun b12 hr_b12 hk_b12 h => ?_)
  refine lv_iload_n F.1 F.2.1 dX4_byKind_16 rfl (lv_at hl 2 rfl) ?_
  refine r_ald F I hr_b12 hk_b12 dX4_byKind_17 h (fun z13 h => ?_)
  refine lv_iload_n F.1 F.2.1 dX4_byKind_18 rfl (lv_at hl 3 rfl) ?_
  refine r_icmp_ne (tgt := 26) F dX4_byKind_19 (by decide) h (fun h => ?_) (fun h => ?_)
  · refine lv_iconst (v := 0) F.1 F.2.1 dX4_byKind_26 (by decide) ?_
    exact hj_27 S _ _ _ a0 a1 a2 a3 z10 (0 : Int32) hr_a0 hk_a0 h I (lv_sub hl [1, 2, 3, 4, 0] rfl)
  · refine lv_iconst (v := 1) F.1 F.2.1 dX4_byKind_22 (by decide) ?_
    refine lv_goto (tgt := 27) F.1 F.2.1 dX4_byKind_23 (by decide) ?_
    exact hj_27 S _ _ _ a0 a1 a2 a3 z10 (1 : Int32) hr_a0 hk_a0 h I (lv_sub hl [1, 2, 3, 4, 0] rfl)
theorem bdX4_workOut_0 : ∀ q ∈ ([(0, .iconst 0, 1), (1, .istore_n 2, 1), (2, .iload_n 2, 1), (3, .aload_n 0, 1), (4, .getfield 25, 3), (7, .getfield 52, 3), (10, .if_icmp .ge 32, 3), (13, .aload_n 0, 1), (14, .getfield 9, 3), (17, .iload_n 1, 1), (18, .bipush 14, 2), (20, .imul, 1), (21, .iload_n 2, 1), (22, .iadd, 1), (23, .aload_n 0, 1), (24, .iload_n 2, 1), (25, .iload_n 1, 1), (26, .aload_n 0, 1), (27, .iload_n 2, 1), (28, .iload_n 1, 1), (29, .invokevirtual 55, 3), (32, .invokevirtual 59, 3), (35, .iastore, 1), (36, .iinc 2 1, 3), (39, .goto (-37), 3), (42, .return_, 1)] : List (Nat × Jvm.ClassFile.Instr × Nat)), decode cX4_workOut q.1 = .ok q.2 := chk_ok _ 0 _ rfl (by decide +kernel)
theorem dX4_workOut_0 : decode cX4_workOut 0 = .ok (.iconst 0, 1) := bdX4_workOut_0 (0, .iconst 0, 1) (List.mem_of_getElem? (i := 0) rfl)
theorem dX4_workOut_1 : decode cX4_workOut 1 = .ok (.istore_n 2, 1) := bdX4_workOut_0 (1, .istore_n 2, 1) (List.mem_of_getElem? (i := 1) rfl)
theorem dX4_workOut_2 : decode cX4_workOut 2 = .ok (.iload_n 2, 1) := bdX4_workOut_0 (2, .iload_n 2, 1) (List.mem_of_getElem? (i := 2) rfl)
theorem dX4_workOut_3 : decode cX4_workOut 3 = .ok (.aload_n 0, 1) := bdX4_workOut_0 (3, .aload_n 0, 1) (List.mem_of_getElem? (i := 3) rfl)
theorem dX4_workOut_4 : decode cX4_workOut 4 = .ok (.getfield 25, 3) := bdX4_workOut_0 (4, .getfield 25, 3) (List.mem_of_getElem? (i := 4) rfl)
theorem dX4_workOut_7 : decode cX4_workOut 7 = .ok (.getfield 52, 3) := bdX4_workOut_0 (7, .getfield 52, 3) (List.mem_of_getElem? (i := 5) rfl)
theorem dX4_workOut_10 : decode cX4_workOut 10 = .ok (.if_icmp .ge 32, 3) := bdX4_workOut_0 (10, .if_icmp .ge 32, 3) (List.mem_of_getElem? (i := 6) rfl)
theorem dX4_workOut_13 : decode cX4_workOut 13 = .ok (.aload_n 0, 1) := bdX4_workOut_0 (13, .aload_n 0, 1) (List.mem_of_getElem? (i := 7) rfl)
theorem dX4_workOut_14 : decode cX4_workOut 14 = .ok (.getfield 9, 3) := bdX4_workOut_0 (14, .getfield 9, 3) (List.mem_of_getElem? (i := 8) rfl)
theorem dX4_workOut_17 : decode cX4_workOut 17 = .ok (.iload_n 1, 1) := bdX4_workOut_0 (17, .iload_n 1, 1) (List.mem_of_getElem? (i := 9) rfl)
theorem dX4_workOut_18 : decode cX4_workOut 18 = .ok (.bipush 14, 2) := bdX4_workOut_0 (18, .bipush 14, 2) (List.mem_of_getElem? (i := 10) rfl)
theorem dX4_workOut_20 : decode cX4_workOut 20 = .ok (.imul, 1) := bdX4_workOut_0 (20, .imul, 1) (List.mem_of_getElem? (i := 11) rfl)
theorem dX4_workOut_21 : decode cX4_workOut 21 = .ok (.iload_n 2, 1) := bdX4_workOut_0 (21, .iload_n 2, 1) (List.mem_of_getElem? (i := 12) rfl)
theorem dX4_workOut_22 : decode cX4_workOut 22 = .ok (.iadd, 1) := bdX4_workOut_0 (22, .iadd, 1) (List.mem_of_getElem? (i := 13) rfl)
theorem dX4_workOut_23 : decode cX4_workOut 23 = .ok (.aload_n 0, 1) := bdX4_workOut_0 (23, .aload_n 0, 1) (List.mem_of_getElem? (i := 14) rfl)
theorem dX4_workOut_24 : decode cX4_workOut 24 = .ok (.iload_n 2, 1) := bdX4_workOut_0 (24, .iload_n 2, 1) (List.mem_of_getElem? (i := 15) rfl)
theorem dX4_workOut_25 : decode cX4_workOut 25 = .ok (.iload_n 1, 1) := bdX4_workOut_0 (25, .iload_n 1, 1) (List.mem_of_getElem? (i := 16) rfl)
theorem dX4_workOut_26 : decode cX4_workOut 26 = .ok (.aload_n 0, 1) := bdX4_workOut_0 (26, .aload_n 0, 1) (List.mem_of_getElem? (i := 17) rfl)
theorem dX4_workOut_27 : decode cX4_workOut 27 = .ok (.iload_n 2, 1) := bdX4_workOut_0 (27, .iload_n 2, 1) (List.mem_of_getElem? (i := 18) rfl)
theorem dX4_workOut_28 : decode cX4_workOut 28 = .ok (.iload_n 1, 1) := bdX4_workOut_0 (28, .iload_n 1, 1) (List.mem_of_getElem? (i := 19) rfl)
theorem dX4_workOut_29 : decode cX4_workOut 29 = .ok (.invokevirtual 55, 3) := bdX4_workOut_0 (29, .invokevirtual 55, 3) (List.mem_of_getElem? (i := 20) rfl)
theorem dX4_workOut_32 : decode cX4_workOut 32 = .ok (.invokevirtual 59, 3) := bdX4_workOut_0 (32, .invokevirtual 59, 3) (List.mem_of_getElem? (i := 21) rfl)
theorem dX4_workOut_35 : decode cX4_workOut 35 = .ok (.iastore, 1) := bdX4_workOut_0 (35, .iastore, 1) (List.mem_of_getElem? (i := 22) rfl)
theorem dX4_workOut_36 : decode cX4_workOut 36 = .ok (.iinc 2 1, 3) := bdX4_workOut_0 (36, .iinc 2 1, 3) (List.mem_of_getElem? (i := 23) rfl)
theorem dX4_workOut_39 : decode cX4_workOut 39 = .ok (.goto (-37), 3) := bdX4_workOut_0 (39, .goto (-37), 3) (List.mem_of_getElem? (i := 24) rfl)
theorem dX4_workOut_42 : decode cX4_workOut 42 = .ok (.return_, 1) := bdX4_workOut_0 (42, .return_, 1) (List.mem_of_getElem? (i := 25) rfl)
theorem fX4_52 : fldOK RX4 52 0 6 .int false := ⟨_, _, _, tyX0, ⟨rfl, iX0, by decide, rfl, by decide⟩, tw_111, ⟨tyX0_ok, nmX0⟩, by decide +kernel, rfl, rfl⟩
theorem kX4_55 : mthV RX4 55 4 yX4_asHeir prog_6_method_6_code 3 (Option.some Jvm.ClassFile.FieldType.int) 2 := ⟨⟨⟨tw_389, tw_62, tw_392⟩, rfl, by decide +kernel⟩, tw_391, tw_0, rfl⟩
theorem kX4_59 : mthV RX4 59 4 yX4_byKind prog_6_method_5_code 6 (Option.some Jvm.ClassFile.FieldType.int) 3 := ⟨⟨⟨tw_420, tw_62, tw_423⟩, rfl, by decide +kernel⟩, tw_422, tw_2, rfl⟩
def LX4_workOut_2 (ln : Nat → Nat) (post : HC → Prop) : Nat → HC → Nat → Int32 → Int32 → Prop
  | 0 => fun _ _ _ _ => False
  | n2 + 1 => fun S x0 x1 x2 => dn_ (hR S x0 3) fun b1 => lt_ (hI S b1 6) fun z2 => if z2 ≤ x2 then (post S) else (dn_ (hR S x0 0) fun b3 => lt_ (x1 * (14 : Int32)) fun z4 => lt_ (z4 + x2) fun z5 => wpX4_asHeir ln S x0 x2 x1 fun z6 S => wpX4_byKind ln S x0 x2 x1 z6 fun z7 S => as_ (ln b3) z5 (fun j => sI S b3 j z7) fun S => lt_ (x2 + (1 : Int32)) fun z8 => (LX4_workOut_2 ln post n2) S x0 x1 z8)
def wpX4_workOut (ln : Nat → Nat) (S : HC) (a0 : Nat) (a1 : Int32) (post : HC → Prop) : Prop := ∃ n2, LX4_workOut_2 ln post n2 S a0 a1 (0 : Int32)
abbrev rmX4_workOut : Room := { frames := 4, cells := 0, slots := 0, locals := 99 }
set_option maxHeartbeats 4000000 in
set_option maxRecDepth 100000 in
theorem ctX4_workOut {l : Launch} {g : GX} {N : Nat} {ln : Nat → Nat} {S : HC} {a0 : Nat} {a1 : Int32} {post : HC → Prop} (hr_a0 : a0 < N) (hk_a0 : kd a0 = 4) (h : wpX4_workOut ln S a0 a1 post) : Met l yX4_workOut (Cond.code yX4_workOut prog_6_method_4_code 3 (Option.none : Option Jvm.ClassFile.FieldType) :: gtbl) rmX4_workOut (va_Pc [.ref (gz g + a0), .int a1] (AtP g N ln S)) (QV g N ln post) 0 0 (gF g) := by
  refine m_of (by decide) (Nat.le_of_ble_eq_true rfl) ?_
  intro p e s m below meth c ls F hr I hl
  have hl : lv_has ls 3 [(0, .ref (gz g + a0)), (1, .int a1)] := hl
  unfold wpX4_workOut at h
  have hl_2 : ∀ n2 : Nat, ∀ (S : HC) (H : Heap) (locs : List Loc) (ls : Array Slot) (x0 : Nat) (x1 : Int32) (x2 : Int32), x0 < N → kd x0 = 4 → LX4_workOut_2 ln post n2 S x0 x1 x2 → Inv g N ln S s H locs → lv_has ls 3 [(0, .ref (gz g + x0)), (1, .int x1), (2, .int x2)] → W p l e rmX4_workOut s m ([.ref (gz g + a0), .int a1] : List Value).toArray below meth c H locs 0 0 (MQ below (QV g N ln post) ([.ref (gz g + a0), .int a1] : List Value).toArray s 0 0 (gF g)) (F0 m 2 ls []) := by
    intro n2
    induction n2 with
    | zero =>
      intro S H locs ls x0 x1 x2 hr_x0 hk_x0 h I hl
      exact h.elim
    | succ n2 ih =>
      have hk2 := ih
      intro S H locs ls x0 x1 x2 hr_x0 hk_x0 h I hl
      rw [LX4_workOut_2] at h
      refine lv_iload_n F.1 F.2.1 dX4_workOut_2 rfl (lv_at hl 2 rfl) ?_
      refine lv_aload_n F.1 F.2.1 dX4_workOut_3 rfl (lv_at hl 0 rfl) ?_
      refine r_getN F I hr_x0 hk_x0 fX4_25 (f := 0) rfl (by decide) dX4_workOut_4 h (fun b1 hr_b1 hk_b1 h => ?_)
      refine r_getI F I hr_b1 hk_b1 fX4_52 rfl dX4_workOut_7 h (fun z2 h => ?_)
      refine r_icmp_ge (tgt := 42) F dX4_workOut_10 (by decide) h (fun h => ?_) (fun h => ?_)
      · exact r_vreturn F I ⟨hr.1, hr.2.1, trivial⟩ h dX4_workOut_42
      · refine lv_aload_n F.1 F.2.1 dX4_workOut_13 rfl (lv_at hl 0 rfl) ?_
        refine r_getN F I hr_x0 hk_x0 fX4_9 (f := 9) rfl (by decide) dX4_workOut_14 h (fun b3 hr_b3 hk_b3 h => ?_)
        refine lv_iload_n F.1 F.2.1 dX4_workOut_17 rfl (lv_at hl 1 rfl) ?_
        refine lv_bipush (v := 14) F.1 F.2.1 dX4_workOut_18 (by decide) ?_
        refine r_imul F dX4_workOut_20 h (fun z4 h => ?_)
        refine lv_iload_n F.1 F.2.1 dX4_workOut_21 rfl (lv_at hl 2 rfl) ?_
        refine r_iadd F dX4_workOut_22 h (fun z5 h => ?_)
        refine lv_aload_n F.1 F.2.1 dX4_workOut_23 rfl (lv_at hl 0 rfl) ?_
        refine lv_iload_n F.1 F.2.1 dX4_workOut_24 rfl (lv_at hl 2 rfl) ?_
        refine lv_iload_n F.1 F.2.1 dX4_workOut_25 rfl (lv_at hl 1 rfl) ?_
        refine lv_aload_n F.1 F.2.1 dX4_workOut_26 rfl (lv_at hl 0 rfl) ?_
        refine lv_iload_n F.1 F.2.1 dX4_workOut_27 rfl (lv_at hl 2 rfl) ?_
        refine lv_iload_n F.1 F.2.1 dX4_workOut_28 rfl (lv_at hl 1 rfl) ?_
        refine g_I I (run_V (As := [.int x2, .int x1]) (rest := [.int x1, .int x2, .ref (gz g + x0), .int z5, .ref (gz g + b3)]) F I hr_x0 hk_x0 (by decide) kX4_55 (ctX4_asHeir hr_x0 hk_x0 h) ⟨rfl, rfl⟩ ⟨Nat.le_of_ble_eq_true rfl, Nat.le_of_ble_eq_true rfl⟩ rfl hl.1 rfl (Nat.le_of_ble_eq_true rfl) ⟨Nat.le_of_ble_eq_true rfl, Nat.le_of_ble_eq_true rfl⟩ dX4_workOut_29) (fun z6 S H locs I h => ?_)
        refine g_I I (run_V (As := [.int x2, .int x1, .int z6]) (rest := [.int z5, .ref (gz g + b3)]) F I hr_x0 hk_x0 (by decide) kX4_59 (ctX4_byKind hr_x0 hk_x0 h) ⟨rfl, rfl⟩ ⟨Nat.le_of_ble_eq_true rfl, Nat.le_of_ble_eq_true rfl⟩ rfl hl.1 rfl (Nat.le_of_ble_eq_true rfl) ⟨Nat.le_of_ble_eq_true rfl, Nat.le_of_ble_eq_true rfl⟩ dX4_workOut_32) (fun z7 S H locs I h => ?_)
        refine r_ast F I hr_b3 hk_b3 dX4_workOut_35 h (fun S H locs I h => ?_)
        obtain ⟨z8, e_z8, h⟩ := lt_x h
        refine lv_iinc (v := z8) (lv' := [(2, .int z8), (0, .ref (gz g + x0)), (1, .int x1)]) F.1 F.2.1 dX4_workOut_36 hl (k := 2) rfl (by rw [e_z8]; rfl) (by decide) rfl (fun ls hl => ?_)
        refine lv_goto (tgt := 2) F.1 F.2.1 dX4_workOut_39 (by decide) ?_
        exact hk2 S _ _ _ x0 x1 z8 hr_x0 hk_x0 h I (lv_sub hl [1, 2, 0] rfl)
  refine lv_iconst (v := 0) F.1 F.2.1 dX4_workOut_0 (by decide) ?_
  refine lv_istore_n (lv' := [(2, .int (0 : Int32)), (0, .ref (gz g + a0)), (1, .int a1)]) F.1 F.2.1 dX4_workOut_1 rfl hl (by decide) rfl (fun ls hl => ?_)
  obtain ⟨n2, h⟩ := h
  exact hl_2 n2 S _ _ _ a0 a1 (0 : Int32) hr_a0 hk_a0 h I (lv_sub hl [1, 2, 0] rfl)
theorem bdX4_workOutAll_0 : ∀ q ∈ ([(0, .aload_n 0, 1), (1, .aload_n 1, 1), (2, .invokevirtual 44, 3), (5, .iconst 0, 1), (6, .istore_n 2, 1), (7, .iload_n 2, 1), (8, .bipush 8, 2), (10, .if_icmp .ge 14, 3), (13, .aload_n 0, 1), (14, .iload_n 2, 1), (15, .invokevirtual 48, 3), (18, .iinc 2 1, 3), (21, .goto (-14), 3), (24, .return_, 1)] : List (Nat × Jvm.ClassFile.Instr × Nat)), decode cX4_workOutAll q.1 = .ok q.2 := chk_ok _ 0 _ rfl (by decide +kernel)
theorem dX4_workOutAll_0 : decode cX4_workOutAll 0 = .ok (.aload_n 0, 1) := bdX4_workOutAll_0 (0, .aload_n 0, 1) (List.mem_of_getElem? (i := 0) rfl)
theorem dX4_workOutAll_1 : decode cX4_workOutAll 1 = .ok (.aload_n 1, 1) := bdX4_workOutAll_0 (1, .aload_n 1, 1) (List.mem_of_getElem? (i := 1) rfl)
theorem dX4_workOutAll_2 : decode cX4_workOutAll 2 = .ok (.invokevirtual 44, 3) := bdX4_workOutAll_0 (2, .invokevirtual 44, 3) (List.mem_of_getElem? (i := 2) rfl)
theorem dX4_workOutAll_5 : decode cX4_workOutAll 5 = .ok (.iconst 0, 1) := bdX4_workOutAll_0 (5, .iconst 0, 1) (List.mem_of_getElem? (i := 3) rfl)
theorem dX4_workOutAll_6 : decode cX4_workOutAll 6 = .ok (.istore_n 2, 1) := bdX4_workOutAll_0 (6, .istore_n 2, 1) (List.mem_of_getElem? (i := 4) rfl)
theorem dX4_workOutAll_7 : decode cX4_workOutAll 7 = .ok (.iload_n 2, 1) := bdX4_workOutAll_0 (7, .iload_n 2, 1) (List.mem_of_getElem? (i := 5) rfl)
theorem dX4_workOutAll_8 : decode cX4_workOutAll 8 = .ok (.bipush 8, 2) := bdX4_workOutAll_0 (8, .bipush 8, 2) (List.mem_of_getElem? (i := 6) rfl)
theorem dX4_workOutAll_10 : decode cX4_workOutAll 10 = .ok (.if_icmp .ge 14, 3) := bdX4_workOutAll_0 (10, .if_icmp .ge 14, 3) (List.mem_of_getElem? (i := 7) rfl)
theorem dX4_workOutAll_13 : decode cX4_workOutAll 13 = .ok (.aload_n 0, 1) := bdX4_workOutAll_0 (13, .aload_n 0, 1) (List.mem_of_getElem? (i := 8) rfl)
theorem dX4_workOutAll_14 : decode cX4_workOutAll 14 = .ok (.iload_n 2, 1) := bdX4_workOutAll_0 (14, .iload_n 2, 1) (List.mem_of_getElem? (i := 9) rfl)
theorem dX4_workOutAll_15 : decode cX4_workOutAll 15 = .ok (.invokevirtual 48, 3) := bdX4_workOutAll_0 (15, .invokevirtual 48, 3) (List.mem_of_getElem? (i := 10) rfl)
theorem dX4_workOutAll_18 : decode cX4_workOutAll 18 = .ok (.iinc 2 1, 3) := bdX4_workOutAll_0 (18, .iinc 2 1, 3) (List.mem_of_getElem? (i := 11) rfl)
theorem dX4_workOutAll_21 : decode cX4_workOutAll 21 = .ok (.goto (-14), 3) := bdX4_workOutAll_0 (21, .goto (-14), 3) (List.mem_of_getElem? (i := 12) rfl)
theorem dX4_workOutAll_24 : decode cX4_workOutAll 24 = .ok (.return_, 1) := bdX4_workOutAll_0 (24, .return_, 1) (List.mem_of_getElem? (i := 13) rfl)
theorem kX4_48 : mthV RX4 48 4 yX4_workOut prog_6_method_4_code 3 (Option.none : Option Jvm.ClassFile.FieldType) 1 := ⟨⟨⟨tw_498, tw_62, tw_388⟩, rfl, by decide +kernel⟩, tw_386, tw_387, rfl⟩
theorem kX4_44 : mthV RX4 44 4 yX4_lookAt prog_6_method_2_code 2 (Option.none : Option Jvm.ClassFile.FieldType) 1 := ⟨⟨⟨tw_497, tw_62, tw_368⟩, rfl, by decide +kernel⟩, tw_366, tw_367, rfl⟩
def LX4_workOutAll_7 (ln : Nat → Nat) (post : HC → Prop) : Nat → HC → Nat → Int32 → Prop
  | 0 => fun _ _ _ => False
  | n7 + 1 => fun S x0 x2 => if (8 : Int32) ≤ x2 then (post S) else (wpX4_workOut ln S x0 x2 fun S => lt_ (x2 + (1 : Int32)) fun z1 => (LX4_workOutAll_7 ln post n7) S x0 z1)
def wpX4_workOutAll (ln : Nat → Nat) (S : HC) (a0 : Nat) (a1 : Nat) (post : HC → Prop) : Prop := wpX4_lookAt ln S a0 a1 fun S => ∃ n7, LX4_workOutAll_7 ln post n7 S a0 (0 : Int32)
abbrev rmX4_workOutAll : Room := { frames := 5, cells := 0, slots := 0, locals := 121 }
set_option maxHeartbeats 4000000 in
set_option maxRecDepth 100000 in
theorem ctX4_workOutAll {l : Launch} {g : GX} {N : Nat} {ln : Nat → Nat} {S : HC} {a0 : Nat} {a1 : Nat} {post : HC → Prop} (hr_a0 : a0 < N) (hk_a0 : kd a0 = 4) (hr_a1 : a1 < N) (hk_a1 : kd a1 = 0) (h : wpX4_workOutAll ln S a0 a1 post) : Met l yX4_workOutAll (Cond.code yX4_workOutAll prog_6_method_3_code 3 (Option.none : Option Jvm.ClassFile.FieldType) :: gtbl) rmX4_workOutAll (va_Pc [.ref (gz g + a0), .ref (gz g + a1)] (AtP g N ln S)) (QV g N ln post) 0 0 (gF g) := by
  refine m_of (by decide) (Nat.le_of_ble_eq_true rfl) ?_
  intro p e s m below meth c ls F hr I hl
  have hl : lv_has ls 3 [(0, .ref (gz g + a0)), (1, .ref (gz g + a1))] := hl
  unfold wpX4_workOutAll at h
  have hl_7 : ∀ n7 : Nat, ∀ (S : HC) (H : Heap) (locs : List Loc) (ls : Array Slot) (x0 : Nat) (x2 : Int32), x0 < N → kd x0 = 4 → LX4_workOutAll_7 ln post n7 S x0 x2 → Inv g N ln S s H locs → lv_has ls 3 [(0, .ref (gz g + x0)), (2, .int x2)] → W p l e rmX4_workOutAll s m ([.ref (gz g + a0), .ref (gz g + a1)] : List Value).toArray below meth c H locs 0 0 (MQ below (QV g N ln post) ([.ref (gz g + a0), .ref (gz g + a1)] : List Value).toArray s 0 0 (gF g)) (F0 m 7 ls []) := by
    intro n7
    induction n7 with
    | zero =>
      intro S H locs ls x0 x2 hr_x0 hk_x0 h I hl
      exact h.elim
    | succ n7 ih =>
      have hk7 := ih
      intro S H locs ls x0 x2 hr_x0 hk_x0 h I hl
      rw [LX4_workOutAll_7] at h
      refine lv_iload_n F.1 F.2.1 dX4_workOutAll_7 rfl (lv_at hl 1 rfl) ?_
      refine lv_bipush (v := 8) F.1 F.2.1 dX4_workOutAll_8 (by decide) ?_
      refine r_icmp_ge (tgt := 24) F dX4_workOutAll_10 (by decide) h (fun h => ?_) (fun h => ?_)
      · exact r_vreturn F I ⟨hr.1, hr.2.1, trivial⟩ h dX4_workOutAll_24
      · refine lv_aload_n F.1 F.2.1 dX4_workOutAll_13 rfl (lv_at hl 0 rfl) ?_
        refine lv_iload_n F.1 F.2.1 dX4_workOutAll_14 rfl (lv_at hl 1 rfl) ?_
        refine g_V I (run_V (As := [.int x2]) (rest := []) F I hr_x0 hk_x0 (by decide) kX4_48 (ctX4_workOut hr_x0 hk_x0 h) ⟨rfl, rfl⟩ ⟨Nat.le_of_ble_eq_true rfl, Nat.le_of_ble_eq_true rfl⟩ rfl hl.1 rfl (Nat.le_of_ble_eq_true rfl) ⟨Nat.le_of_ble_eq_true rfl, Nat.le_of_ble_eq_true rfl⟩ dX4_workOutAll_15) (fun S H locs I h => ?_)
        obtain ⟨z1, e_z1, h⟩ := lt_x h
        refine lv_iinc (v := z1) (lv' := [(2, .int z1), (0, .ref (gz g + x0))]) F.1 F.2.1 dX4_workOutAll_18 hl (k := 1) rfl (by rw [e_z1]; rfl) (by decide) rfl (fun ls hl => ?_)
        refine lv_goto (tgt := 7) F.1 F.2.1 dX4_workOutAll_21 (by decide) ?_
        exact hk7 S _ _ _ x0 z1 hr_x0 hk_x0 h I (lv_sub hl [1, 0] rfl)
  refine lv_aload_n F.1 F.2.1 dX4_workOutAll_0 rfl (lv_at hl 0 rfl) ?_
  refine lv_aload_n F.1 F.2.1 dX4_workOutAll_1 rfl (lv_at hl 1 rfl) ?_
  refine g_V I (run_V (As := [.ref (gz g + a1)]) (rest := []) F I hr_a0 hk_a0 (by decide) kX4_44 (ctX4_lookAt hr_a0 hk_a0 hr_a1 hk_a1 h) ⟨rfl, rfl⟩ ⟨Nat.le_of_ble_eq_true rfl, Nat.le_of_ble_eq_true rfl⟩ rfl hl.1 rfl (Nat.le_of_ble_eq_true rfl) ⟨Nat.le_of_ble_eq_true rfl, Nat.le_of_ble_eq_true rfl⟩ dX4_workOutAll_2) (fun S H locs I h => ?_)
  refine lv_iconst (v := 0) F.1 F.2.1 dX4_workOutAll_5 (by decide) ?_
  refine lv_istore_n (lv' := [(2, .int (0 : Int32)), (0, .ref (gz g + a0)), (1, .ref (gz g + a1))]) F.1 F.2.1 dX4_workOutAll_6 rfl hl (by decide) rfl (fun ls hl => ?_)
  obtain ⟨n7, h⟩ := h
  exact hl_7 n7 S _ _ _ a0 (0 : Int32) hr_a0 hk_a0 h I (lv_sub hl [1, 0] rfl)
theorem bdX4_shown_0 : ∀ q ∈ ([(0, .aload_n 0, 1), (1, .getfield 25, 3), (4, .iload_n 1, 1), (5, .invokevirtual 86, 3), (8, .ifCond .eq 20, 3), (11, .aload_n 0, 1), (12, .getfield 25, 3), (15, .getfield 102, 3), (18, .iload_n 1, 1), (19, .iaload, 1), (20, .iload_n 2, 1), (22, .iconst 1, 1), (23, .iand, 1), (24, .iconst 1, 1), (25, .if_icmp .ne 5, 3), (28, .iconst 0, 1), (29, .ireturn, 1), (30, .aload_n 0, 1), (31, .iload_n 1, 1), (32, .iload_n 2, 1), (33, .invokevirtual 77, 3), (36, .ireturn, 1)] : List (Nat × Jvm.ClassFile.Instr × Nat)), decode cX4_shown q.1 = .ok q.2 := chk_ok _ 0 _ rfl (by decide +kernel)
theorem dX4_shown_0 : decode cX4_shown 0 = .ok (.aload_n 0, 1) := bdX4_shown_0 (0, .aload_n 0, 1) (List.mem_of_getElem? (i := 0) rfl)
theorem dX4_shown_1 : decode cX4_shown 1 = .ok (.getfield 25, 3) := bdX4_shown_0 (1, .getfield 25, 3) (List.mem_of_getElem? (i := 1) rfl)
theorem dX4_shown_4 : decode cX4_shown 4 = .ok (.iload_n 1, 1) := bdX4_shown_0 (4, .iload_n 1, 1) (List.mem_of_getElem? (i := 2) rfl)
theorem dX4_shown_5 : decode cX4_shown 5 = .ok (.invokevirtual 86, 3) := bdX4_shown_0 (5, .invokevirtual 86, 3) (List.mem_of_getElem? (i := 3) rfl)
theorem dX4_shown_8 : decode cX4_shown 8 = .ok (.ifCond .eq 20, 3) := bdX4_shown_0 (8, .ifCond .eq 20, 3) (List.mem_of_getElem? (i := 4) rfl)
theorem dX4_shown_11 : decode cX4_shown 11 = .ok (.aload_n 0, 1) := bdX4_shown_0 (11, .aload_n 0, 1) (List.mem_of_getElem? (i := 5) rfl)
theorem dX4_shown_12 : decode cX4_shown 12 = .ok (.getfield 25, 3) := bdX4_shown_0 (12, .getfield 25, 3) (List.mem_of_getElem? (i := 6) rfl)
theorem dX4_shown_15 : decode cX4_shown 15 = .ok (.getfield 102, 3) := bdX4_shown_0 (15, .getfield 102, 3) (List.mem_of_getElem? (i := 7) rfl)
theorem dX4_shown_18 : decode cX4_shown 18 = .ok (.iload_n 1, 1) := bdX4_shown_0 (18, .iload_n 1, 1) (List.mem_of_getElem? (i := 8) rfl)
theorem dX4_shown_19 : decode cX4_shown 19 = .ok (.iaload, 1) := bdX4_shown_0 (19, .iaload, 1) (List.mem_of_getElem? (i := 9) rfl)
theorem dX4_shown_20 : decode cX4_shown 20 = .ok (.iload_n 2, 1) := bdX4_shown_0 (20, .iload_n 2, 1) (List.mem_of_getElem? (i := 10) rfl)
theorem dX4_shown_22 : decode cX4_shown 22 = .ok (.iconst 1, 1) := bdX4_shown_0 (22, .iconst 1, 1) (List.mem_of_getElem? (i := 11) rfl)
theorem dX4_shown_23 : decode cX4_shown 23 = .ok (.iand, 1) := bdX4_shown_0 (23, .iand, 1) (List.mem_of_getElem? (i := 12) rfl)
theorem dX4_shown_24 : decode cX4_shown 24 = .ok (.iconst 1, 1) := bdX4_shown_0 (24, .iconst 1, 1) (List.mem_of_getElem? (i := 13) rfl)
theorem dX4_shown_25 : decode cX4_shown 25 = .ok (.if_icmp .ne 5, 3) := bdX4_shown_0 (25, .if_icmp .ne 5, 3) (List.mem_of_getElem? (i := 14) rfl)
theorem dX4_shown_28 : decode cX4_shown 28 = .ok (.iconst 0, 1) := bdX4_shown_0 (28, .iconst 0, 1) (List.mem_of_getElem? (i := 15) rfl)
theorem dX4_shown_29 : decode cX4_shown 29 = .ok (.ireturn, 1) := bdX4_shown_0 (29, .ireturn, 1) (List.mem_of_getElem? (i := 16) rfl)
theorem dX4_shown_30 : decode cX4_shown 30 = .ok (.aload_n 0, 1) := bdX4_shown_0 (30, .aload_n 0, 1) (List.mem_of_getElem? (i := 17) rfl)
theorem dX4_shown_31 : decode cX4_shown 31 = .ok (.iload_n 1, 1) := bdX4_shown_0 (31, .iload_n 1, 1) (List.mem_of_getElem? (i := 18) rfl)
theorem dX4_shown_32 : decode cX4_shown 32 = .ok (.iload_n 2, 1) := bdX4_shown_0 (32, .iload_n 2, 1) (List.mem_of_getElem? (i := 19) rfl)
theorem dX4_shown_33 : decode cX4_shown 33 = .ok (.invokevirtual 77, 3) := bdX4_shown_0 (33, .invokevirtual 77, 3) (List.mem_of_getElem? (i := 20) rfl)
theorem dX4_shown_36 : decode cX4_shown 36 = .ok (.ireturn, 1) := bdX4_shown_0 (36, .ireturn, 1) (List.mem_of_getElem? (i := 21) rfl)
theorem dX4_shown_21 : decode cX4_shown 21 = .ok (.ishr, 1) := by decide +kernel
theorem fX4_102 : fldOK RX4 102 0 5 (.array .int) true := ⟨_, _, _, tyX0, ⟨rfl, iX0, by decide, rfl, by decide⟩, tw_109, ⟨tyX0_ok, nmX0⟩, by decide +kernel, rfl, rfl⟩
def BX4_shown_28 (ln : Nat → Nat) (post : Int32 → HC → Prop) (S : HC)  : Prop := post (0 : Int32) S
def wpX4_shown (ln : Nat → Nat) (S : HC) (a0 : Nat) (a1 : Int32) (a2 : Int32) (post : Int32 → HC → Prop) : Prop := dn_ (hR S a0 3) fun b1 => wpX0_has ln S b1 a1 fun z2 S => if z2 = 0 then (BX4_shown_28 ln post S) else (dn_ (hR S a0 3) fun b3 => dn_ (hR S b3 5) fun b4 => al_ (ln b4) a1 (hI S b4) fun z5 => lt_ (z5 >>> (a2 &&& 31)) fun z6 => lt_ (z6 &&& (1 : Int32)) fun z7 => if z7 = (1 : Int32) then (BX4_shown_28 ln post S) else (wpX4_hidden ln S a0 a1 a2 fun z8 S => post z8 S))
abbrev rmX4_shown : Room := { frames := 2, cells := 0, slots := 0, locals := 43 }
set_option maxHeartbeats 4000000 in
set_option maxRecDepth 100000 in
theorem ctX4_shown {l : Launch} {g : GX} {N : Nat} {ln : Nat → Nat} {S : HC} {a0 : Nat} {a1 : Int32} {a2 : Int32} {post : Int32 → HC → Prop} (hr_a0 : a0 < N) (hk_a0 : kd a0 = 4) (h : wpX4_shown ln S a0 a1 a2 post) : Met l yX4_shown (Cond.code yX4_shown prog_6_method_9_code 3 (Option.some Jvm.ClassFile.FieldType.int) :: gtbl) rmX4_shown (va_Pc [.ref (gz g + a0), .int a1, .int a2] (AtP g N ln S)) (QI g N ln post) 0 0 (gF g) := by
  refine m_of (by decide) (Nat.le_of_ble_eq_true rfl) ?_
  intro p e s m below meth c ls F hr I hl
  have hl : lv_has ls 3 [(0, .ref (gz g + a0)), (1, .int a1), (2, .int a2)] := hl
  unfold wpX4_shown at h
  have hj_28 : ∀ (S : HC) (H : Heap) (locs : List Loc) (ls : Array Slot), BX4_shown_28 ln post S  → Inv g N ln S s H locs → lv_has ls 3 [] → W p l e rmX4_shown s m ([.ref (gz g + a0), .int a1, .int a2] : List Value).toArray below meth c H locs 0 0 (MQ below (QI g N ln post) ([.ref (gz g + a0), .int a1, .int a2] : List Value).toArray s 0 0 (gF g)) (F0 m 28 ls []) := by
    intro S H locs ls h I hl
    unfold BX4_shown_28 at h
    refine lv_iconst (v := 0) F.1 F.2.1 dX4_shown_28 (by decide) ?_
    exact r_ireturn F I ⟨hr.1, hr.2.1, trivial⟩ h dX4_shown_29
  refine lv_aload_n F.1 F.2.1 dX4_shown_0 rfl (lv_at hl 0 rfl) ?_
  refine r_getN F I hr_a0 hk_a0 fX4_25 (f := 0) rfl (by decide) dX4_shown_1 h (fun b1 hr_b1 hk_b1 h => ?_)
  refine lv_iload_n F.1 F.2.1 dX4_shown_4 rfl (lv_at hl 1 rfl) ?_
  refine g_I I (run_V (As := [.int a1]) (rest := []) F I hr_b1 hk_b1 (by decide) kX4_86 (ctX0_has hr_b1 hk_b1 h) ⟨rfl, rfl⟩ ⟨Nat.le_of_ble_eq_true rfl, Nat.le_of_ble_eq_true rfl⟩ rfl hl.1 rfl (Nat.le_of_ble_eq_true rfl) ⟨Nat.le_of_ble_eq_true rfl, Nat.le_of_ble_eq_true rfl⟩ dX4_shown_5) (fun z2 S H locs I h => ?_)
  refine r_if_eq (tgt := 28) F dX4_shown_8 (by decide) h (fun h => ?_) (fun h => ?_)
  · exact hj_28 S _ _ _   h I (lv_sub hl [] rfl)
  · refine lv_aload_n F.1 F.2.1 dX4_shown_11 rfl (lv_at hl 0 rfl) ?_
    refine r_getN F I hr_a0 hk_a0 fX4_25 (f := 0) rfl (by decide) dX4_shown_12 h (fun b3 hr_b3 hk_b3 h => ?_)
    refine r_getN F I hr_b3 hk_b3 fX4_102 (f := 9) rfl (by decide) dX4_shown_15 h (fun b4 hr_b4 hk_b4 h => ?_)
    refine lv_iload_n F.1 F.2.1 dX4_shown_18 rfl (lv_at hl 1 rfl) ?_
    refine r_ald F I hr_b4 hk_b4 dX4_shown_19 h (fun z5 h => ?_)
    refine lv_iload_n F.1 F.2.1 dX4_shown_20 rfl (lv_at hl 2 rfl) ?_
    refine r_ishr F dX4_shown_21 h (fun z6 h => ?_)
    refine lv_iconst (v := 1) F.1 F.2.1 dX4_shown_22 (by decide) ?_
    refine r_iand F dX4_shown_23 h (fun z7 h => ?_)
    refine lv_iconst (v := 1) F.1 F.2.1 dX4_shown_24 (by decide) ?_
    refine r_icmp_ne (tgt := 30) F dX4_shown_25 (by decide) h (fun h => ?_) (fun h => ?_)
    · refine lv_aload_n F.1 F.2.1 dX4_shown_30 rfl (lv_at hl 0 rfl) ?_
      refine lv_iload_n F.1 F.2.1 dX4_shown_31 rfl (lv_at hl 1 rfl) ?_
      refine lv_iload_n F.1 F.2.1 dX4_shown_32 rfl (lv_at hl 2 rfl) ?_
      refine g_I I (run_V (As := [.int a1, .int a2]) (rest := []) F I hr_a0 hk_a0 (by decide) kX4_77 (ctX4_hidden hr_a0 hk_a0 h) ⟨rfl, rfl⟩ ⟨Nat.le_of_ble_eq_true rfl, Nat.le_of_ble_eq_true rfl⟩ rfl hl.1 rfl (Nat.le_of_ble_eq_true rfl) ⟨Nat.le_of_ble_eq_true rfl, Nat.le_of_ble_eq_true rfl⟩ dX4_shown_33) (fun z8 S H locs I h => ?_)
      exact r_ireturn F I ⟨hr.1, hr.2.1, trivial⟩ h dX4_shown_36
    · exact hj_28 S _ _ _   h I (lv_sub hl [] rfl)
theorem bdX4_packed_2 : ∀ q ∈ ([(2, .iconst 0, 1), (3, .istore 4, 2), (5, .iload 4, 2), (7, .bipush 8, 2), (9, .if_icmp .ge 23, 3), (13, .bipush 7, 2), (16, .aload_n 0, 1), (17, .iload_n 1, 1), (18, .iload 4, 2), (20, .invokevirtual 105, 3), (26, .iinc 4 1, 3), (29, .goto (-24), 3)] : List (Nat × Jvm.ClassFile.Instr × Nat)), decode cX4_packed q.1 = .ok q.2 := chk_ok _ 2 _ rfl (by decide +kernel)
theorem dX4_packed_2 : decode cX4_packed 2 = .ok (.iconst 0, 1) := bdX4_packed_2 (2, .iconst 0, 1) (List.mem_of_getElem? (i := 0) rfl)
theorem dX4_packed_3 : decode cX4_packed 3 = .ok (.istore 4, 2) := bdX4_packed_2 (3, .istore 4, 2) (List.mem_of_getElem? (i := 1) rfl)
theorem dX4_packed_5 : decode cX4_packed 5 = .ok (.iload 4, 2) := bdX4_packed_2 (5, .iload 4, 2) (List.mem_of_getElem? (i := 2) rfl)
theorem dX4_packed_7 : decode cX4_packed 7 = .ok (.bipush 8, 2) := bdX4_packed_2 (7, .bipush 8, 2) (List.mem_of_getElem? (i := 3) rfl)
theorem dX4_packed_9 : decode cX4_packed 9 = .ok (.if_icmp .ge 23, 3) := bdX4_packed_2 (9, .if_icmp .ge 23, 3) (List.mem_of_getElem? (i := 4) rfl)
theorem dX4_packed_13 : decode cX4_packed 13 = .ok (.bipush 7, 2) := bdX4_packed_2 (13, .bipush 7, 2) (List.mem_of_getElem? (i := 5) rfl)
theorem dX4_packed_16 : decode cX4_packed 16 = .ok (.aload_n 0, 1) := bdX4_packed_2 (16, .aload_n 0, 1) (List.mem_of_getElem? (i := 6) rfl)
theorem dX4_packed_17 : decode cX4_packed 17 = .ok (.iload_n 1, 1) := bdX4_packed_2 (17, .iload_n 1, 1) (List.mem_of_getElem? (i := 7) rfl)
theorem dX4_packed_18 : decode cX4_packed 18 = .ok (.iload 4, 2) := bdX4_packed_2 (18, .iload 4, 2) (List.mem_of_getElem? (i := 8) rfl)
theorem dX4_packed_20 : decode cX4_packed 20 = .ok (.invokevirtual 105, 3) := bdX4_packed_2 (20, .invokevirtual 105, 3) (List.mem_of_getElem? (i := 9) rfl)
theorem dX4_packed_26 : decode cX4_packed 26 = .ok (.iinc 4 1, 3) := bdX4_packed_2 (26, .iinc 4 1, 3) (List.mem_of_getElem? (i := 10) rfl)
theorem dX4_packed_29 : decode cX4_packed 29 = .ok (.goto (-24), 3) := bdX4_packed_2 (29, .goto (-24), 3) (List.mem_of_getElem? (i := 11) rfl)
theorem budX4_packed_0 : ∀ q ∈ ([(0, .ok (.lconst 0, 1)), (1, .ok (.lstore_n 2, 1)), (12, .ok (.lload_n 2, 1)), (15, .ok (.lshl, 1)), (23, .ok (.i2l, 1)), (24, .ok (.lor, 1)), (25, .ok (.lstore_n 2, 1)), (32, .ok (.lload_n 2, 1)), (33, .ok (.lreturn, 1))] : List (Nat × Except Jvm.ClassFile.DecodeError (Jvm.ClassFile.Instr × Nat))), decode cX4_packed q.1 = q.2 := by decide +kernel
theorem dX4_packed_0 : decode cX4_packed 0 = .ok (.lconst 0, 1) := budX4_packed_0 (0, .ok (.lconst 0, 1)) (List.mem_of_getElem? (i := 0) rfl)
theorem dX4_packed_1 : decode cX4_packed 1 = .ok (.lstore_n 2, 1) := budX4_packed_0 (1, .ok (.lstore_n 2, 1)) (List.mem_of_getElem? (i := 1) rfl)
theorem dX4_packed_12 : decode cX4_packed 12 = .ok (.lload_n 2, 1) := budX4_packed_0 (12, .ok (.lload_n 2, 1)) (List.mem_of_getElem? (i := 2) rfl)
theorem dX4_packed_15 : decode cX4_packed 15 = .ok (.lshl, 1) := budX4_packed_0 (15, .ok (.lshl, 1)) (List.mem_of_getElem? (i := 3) rfl)
theorem dX4_packed_23 : decode cX4_packed 23 = .ok (.i2l, 1) := budX4_packed_0 (23, .ok (.i2l, 1)) (List.mem_of_getElem? (i := 4) rfl)
theorem dX4_packed_24 : decode cX4_packed 24 = .ok (.lor, 1) := budX4_packed_0 (24, .ok (.lor, 1)) (List.mem_of_getElem? (i := 5) rfl)
theorem dX4_packed_25 : decode cX4_packed 25 = .ok (.lstore_n 2, 1) := budX4_packed_0 (25, .ok (.lstore_n 2, 1)) (List.mem_of_getElem? (i := 6) rfl)
theorem dX4_packed_32 : decode cX4_packed 32 = .ok (.lload_n 2, 1) := budX4_packed_0 (32, .ok (.lload_n 2, 1)) (List.mem_of_getElem? (i := 7) rfl)
theorem dX4_packed_33 : decode cX4_packed 33 = .ok (.lreturn, 1) := budX4_packed_0 (33, .ok (.lreturn, 1)) (List.mem_of_getElem? (i := 8) rfl)
theorem kX4_105 : mthV RX4 105 4 yX4_shown prog_6_method_9_code 3 (Option.some Jvm.ClassFile.FieldType.int) 2 := ⟨⟨⟨tw_503, tw_62, tw_428⟩, rfl, by decide +kernel⟩, tw_426, tw_427, rfl⟩
def LX4_packed_5 (ln : Nat → Nat) (post : Int64 → HC → Prop) : Nat → HC → Nat → Int32 → Int64 → Int32 → Prop
  | 0 => fun _ _ _ _ _ => False
  | n5 + 1 => fun S x0 x1 x2 x4 => if (8 : Int32) ≤ x4 then (post x2 S) else (lt_ (x2 <<< ((7 : Int32).toInt64 &&& 63)) fun z1 => wpX4_shown ln S x0 x1 x4 fun z2 S => lt_ (z2.toInt64) fun z3 => lt_ (z1 ||| z3) fun z4 => lt_ (x4 + (1 : Int32)) fun z5 => (LX4_packed_5 ln post n5) S x0 x1 z4 z5)
def wpX4_packed (ln : Nat → Nat) (S : HC) (a0 : Nat) (a1 : Int32) (post : Int64 → HC → Prop) : Prop := ∃ n5, LX4_packed_5 ln post n5 S a0 a1 (0 : Int64) (0 : Int32)
abbrev rmX4_packed : Room := { frames := 3, cells := 0, slots := 0, locals := 65 }
set_option maxHeartbeats 4000000 in
set_option maxRecDepth 100000 in
theorem ctX4_packed {l : Launch} {g : GX} {N : Nat} {ln : Nat → Nat} {S : HC} {a0 : Nat} {a1 : Int32} {post : Int64 → HC → Prop} (hr_a0 : a0 < N) (hk_a0 : kd a0 = 4) (h : wpX4_packed ln S a0 a1 post) : Met l yX4_packed (Cond.code yX4_packed prog_6_method_10_code 5 (Option.some Jvm.ClassFile.FieldType.long) :: gtbl) rmX4_packed (va_Pc [.ref (gz g + a0), .int a1] (AtP g N ln S)) (QL g N ln post) 0 0 (gF g) := by
  refine m_of (by decide) (Nat.le_of_ble_eq_true rfl) ?_
  intro p e s m below meth c ls F hr I hl
  have hl : lv_has ls 5 [(0, .ref (gz g + a0)), (1, .int a1)] := hl
  unfold wpX4_packed at h
  have hl_5 : ∀ n5 : Nat, ∀ (S : HC) (H : Heap) (locs : List Loc) (ls : Array Slot) (x0 : Nat) (x1 : Int32) (x2 : Int64) (x4 : Int32), x0 < N → kd x0 = 4 → LX4_packed_5 ln post n5 S x0 x1 x2 x4 → Inv g N ln S s H locs → lv_has ls 5 [(0, .ref (gz g + x0)), (1, .int x1), (2, .long x2), (4, .int x4)] → W p l e rmX4_packed s m ([.ref (gz g + a0), .int a1] : List Value).toArray below meth c H locs 0 0 (MQ below (QL g N ln post) ([.ref (gz g + a0), .int a1] : List Value).toArray s 0 0 (gF g)) (F0 m 5 ls []) := by
    intro n5
    induction n5 with
    | zero =>
      intro S H locs ls x0 x1 x2 x4 hr_x0 hk_x0 h I hl
      exact h.elim
    | succ n5 ih =>
      have hk5 := ih
      intro S H locs ls x0 x1 x2 x4 hr_x0 hk_x0 h I hl
      rw [LX4_packed_5] at h
      refine lv_iload F.1 F.2.1 dX4_packed_5 (lv_at hl 3 rfl) ?_
      refine lv_bipush (v := 8) F.1 F.2.1 dX4_packed_7 (by decide) ?_
      refine r_icmp_ge (tgt := 32) F dX4_packed_9 (by decide) h (fun h => ?_) (fun h => ?_)
      · refine lv_lload_n F.1 F.2.1 dX4_packed_32 rfl (lv_at hl 2 rfl) ?_
        exact r_lreturn F I ⟨hr.1, hr.2.1, trivial⟩ h dX4_packed_33
      · refine lv_lload_n F.1 F.2.1 dX4_packed_12 rfl (lv_at hl 2 rfl) ?_
        refine lv_bipush (v := 7) F.1 F.2.1 dX4_packed_13 (by decide) ?_
        refine r_lshl F dX4_packed_15 h (fun z1 h => ?_)
        refine lv_aload_n F.1 F.2.1 dX4_packed_16 rfl (lv_at hl 0 rfl) ?_
        refine lv_iload_n F.1 F.2.1 dX4_packed_17 rfl (lv_at hl 1 rfl) ?_
        refine lv_iload F.1 F.2.1 dX4_packed_18 (lv_at hl 3 rfl) ?_
        refine g_I I (run_V (As := [.int x1, .int x4]) (rest := [.long z1]) F I hr_x0 hk_x0 (by decide) kX4_105 (ctX4_shown hr_x0 hk_x0 h) ⟨rfl, rfl⟩ ⟨Nat.le_of_ble_eq_true rfl, Nat.le_of_ble_eq_true rfl⟩ rfl hl.1 rfl (Nat.le_of_ble_eq_true rfl) ⟨Nat.le_of_ble_eq_true rfl, Nat.le_of_ble_eq_true rfl⟩ dX4_packed_20) (fun z2 S H locs I h => ?_)
        refine r_i2l F dX4_packed_23 h (fun z3 h => ?_)
        refine r_lor F dX4_packed_24 h (fun z4 h => ?_)
        refine lv_lstore_n (lv' := [(2, .long z4), (0, .ref (gz g + x0)), (1, .int x1), (4, .int x4)]) F.1 F.2.1 dX4_packed_25 rfl hl (by decide) rfl (fun ls hl => ?_)
        obtain ⟨z5, e_z5, h⟩ := lt_x h
        refine lv_iinc (v := z5) (lv' := [(4, .int z5), (2, .long z4), (0, .ref (gz g + x0)), (1, .int x1)]) F.1 F.2.1 dX4_packed_26 hl (k := 3) rfl (by rw [e_z5]; rfl) (by decide) rfl (fun ls hl => ?_)
        refine lv_goto (tgt := 5) F.1 F.2.1 dX4_packed_29 (by decide) ?_
        exact hk5 S _ _ _ x0 x1 z4 z5 hr_x0 hk_x0 h I (lv_sub hl [2, 3, 1, 0] rfl)
  refine lv_lconst (v := 0) F.1 F.2.1 dX4_packed_0 (by decide) ?_
  refine lv_lstore_n (lv' := [(2, .long (0 : Int64)), (0, .ref (gz g + a0)), (1, .int a1)]) F.1 F.2.1 dX4_packed_1 rfl hl (by decide) rfl (fun ls hl => ?_)
  refine lv_iconst (v := 0) F.1 F.2.1 dX4_packed_2 (by decide) ?_
  refine lv_istore (lv' := [(4, .int (0 : Int32)), (2, .long (0 : Int64)), (0, .ref (gz g + a0)), (1, .int a1)]) F.1 F.2.1 dX4_packed_3 hl (by decide) rfl (fun ls hl => ?_)
  obtain ⟨n5, h⟩ := h
  exact hl_5 n5 S _ _ _ a0 a1 (0 : Int64) (0 : Int32) hr_a0 hk_a0 h I (lv_sub hl [2, 3, 1, 0] rfl)
theorem bdX4_clashes_0 : ∀ q ∈ ([(0, .iconst 0, 1), (1, .istore_n 1, 1), (2, .iconst 0, 1), (3, .istore_n 2, 1), (4, .iload_n 2, 1), (5, .aload_n 0, 1), (6, .getfield 25, 3), (9, .getfield 52, 3), (12, .if_icmp .ge 52, 3), (15, .aload_n 0, 1), (16, .getfield 15, 3), (19, .iload_n 2, 1), (20, .aload_n 0, 1), (21, .iload_n 2, 1), (22, .invokevirtual 108, 3), (26, .iconst 0, 1), (27, .istore_n 3, 1), (28, .iload_n 3, 1), (29, .iload_n 2, 1), (30, .if_icmp .ge 28, 3), (33, .aload_n 0, 1), (34, .getfield 15, 3), (37, .iload_n 3, 1), (39, .aload_n 0, 1), (40, .getfield 15, 3), (43, .iload_n 2, 1), (46, .ifCond .ne 6, 3), (49, .iinc 1 1, 3), (52, .iinc 3 1, 3), (55, .goto (-27), 3), (58, .iinc 2 1, 3), (61, .goto (-57), 3), (64, .iload_n 1, 1), (65, .ireturn, 1)] : List (Nat × Jvm.ClassFile.Instr × Nat)), decode cX4_clashes q.1 = .ok q.2 := chk_ok _ 0 _ rfl (by decide +kernel)
theorem dX4_clashes_0 : decode cX4_clashes 0 = .ok (.iconst 0, 1) := bdX4_clashes_0 (0, .iconst 0, 1) (List.mem_of_getElem? (i := 0) rfl)
theorem dX4_clashes_1 : decode cX4_clashes 1 = .ok (.istore_n 1, 1) := bdX4_clashes_0 (1, .istore_n 1, 1) (List.mem_of_getElem? (i := 1) rfl)
theorem dX4_clashes_2 : decode cX4_clashes 2 = .ok (.iconst 0, 1) := bdX4_clashes_0 (2, .iconst 0, 1) (List.mem_of_getElem? (i := 2) rfl)
theorem dX4_clashes_3 : decode cX4_clashes 3 = .ok (.istore_n 2, 1) := bdX4_clashes_0 (3, .istore_n 2, 1) (List.mem_of_getElem? (i := 3) rfl)
theorem dX4_clashes_4 : decode cX4_clashes 4 = .ok (.iload_n 2, 1) := bdX4_clashes_0 (4, .iload_n 2, 1) (List.mem_of_getElem? (i := 4) rfl)
theorem dX4_clashes_5 : decode cX4_clashes 5 = .ok (.aload_n 0, 1) := bdX4_clashes_0 (5, .aload_n 0, 1) (List.mem_of_getElem? (i := 5) rfl)
theorem dX4_clashes_6 : decode cX4_clashes 6 = .ok (.getfield 25, 3) := bdX4_clashes_0 (6, .getfield 25, 3) (List.mem_of_getElem? (i := 6) rfl)
theorem dX4_clashes_9 : decode cX4_clashes 9 = .ok (.getfield 52, 3) := bdX4_clashes_0 (9, .getfield 52, 3) (List.mem_of_getElem? (i := 7) rfl)
theorem dX4_clashes_12 : decode cX4_clashes 12 = .ok (.if_icmp .ge 52, 3) := bdX4_clashes_0 (12, .if_icmp .ge 52, 3) (List.mem_of_getElem? (i := 8) rfl)
theorem dX4_clashes_15 : decode cX4_clashes 15 = .ok (.aload_n 0, 1) := bdX4_clashes_0 (15, .aload_n 0, 1) (List.mem_of_getElem? (i := 9) rfl)
theorem dX4_clashes_16 : decode cX4_clashes 16 = .ok (.getfield 15, 3) := bdX4_clashes_0 (16, .getfield 15, 3) (List.mem_of_getElem? (i := 10) rfl)
theorem dX4_clashes_19 : decode cX4_clashes 19 = .ok (.iload_n 2, 1) := bdX4_clashes_0 (19, .iload_n 2, 1) (List.mem_of_getElem? (i := 11) rfl)
theorem dX4_clashes_20 : decode cX4_clashes 20 = .ok (.aload_n 0, 1) := bdX4_clashes_0 (20, .aload_n 0, 1) (List.mem_of_getElem? (i := 12) rfl)
theorem dX4_clashes_21 : decode cX4_clashes 21 = .ok (.iload_n 2, 1) := bdX4_clashes_0 (21, .iload_n 2, 1) (List.mem_of_getElem? (i := 13) rfl)
theorem dX4_clashes_22 : decode cX4_clashes 22 = .ok (.invokevirtual 108, 3) := bdX4_clashes_0 (22, .invokevirtual 108, 3) (List.mem_of_getElem? (i := 14) rfl)
theorem dX4_clashes_26 : decode cX4_clashes 26 = .ok (.iconst 0, 1) := bdX4_clashes_0 (26, .iconst 0, 1) (List.mem_of_getElem? (i := 15) rfl)
theorem dX4_clashes_27 : decode cX4_clashes 27 = .ok (.istore_n 3, 1) := bdX4_clashes_0 (27, .istore_n 3, 1) (List.mem_of_getElem? (i := 16) rfl)
theorem dX4_clashes_28 : decode cX4_clashes 28 = .ok (.iload_n 3, 1) := bdX4_clashes_0 (28, .iload_n 3, 1) (List.mem_of_getElem? (i := 17) rfl)
theorem dX4_clashes_29 : decode cX4_clashes 29 = .ok (.iload_n 2, 1) := bdX4_clashes_0 (29, .iload_n 2, 1) (List.mem_of_getElem? (i := 18) rfl)
theorem dX4_clashes_30 : decode cX4_clashes 30 = .ok (.if_icmp .ge 28, 3) := bdX4_clashes_0 (30, .if_icmp .ge 28, 3) (List.mem_of_getElem? (i := 19) rfl)
theorem dX4_clashes_33 : decode cX4_clashes 33 = .ok (.aload_n 0, 1) := bdX4_clashes_0 (33, .aload_n 0, 1) (List.mem_of_getElem? (i := 20) rfl)
theorem dX4_clashes_34 : decode cX4_clashes 34 = .ok (.getfield 15, 3) := bdX4_clashes_0 (34, .getfield 15, 3) (List.mem_of_getElem? (i := 21) rfl)
theorem dX4_clashes_37 : decode cX4_clashes 37 = .ok (.iload_n 3, 1) := bdX4_clashes_0 (37, .iload_n 3, 1) (List.mem_of_getElem? (i := 22) rfl)
theorem dX4_clashes_39 : decode cX4_clashes 39 = .ok (.aload_n 0, 1) := bdX4_clashes_0 (39, .aload_n 0, 1) (List.mem_of_getElem? (i := 23) rfl)
theorem dX4_clashes_40 : decode cX4_clashes 40 = .ok (.getfield 15, 3) := bdX4_clashes_0 (40, .getfield 15, 3) (List.mem_of_getElem? (i := 24) rfl)
theorem dX4_clashes_43 : decode cX4_clashes 43 = .ok (.iload_n 2, 1) := bdX4_clashes_0 (43, .iload_n 2, 1) (List.mem_of_getElem? (i := 25) rfl)
theorem dX4_clashes_46 : decode cX4_clashes 46 = .ok (.ifCond .ne 6, 3) := bdX4_clashes_0 (46, .ifCond .ne 6, 3) (List.mem_of_getElem? (i := 26) rfl)
theorem dX4_clashes_49 : decode cX4_clashes 49 = .ok (.iinc 1 1, 3) := bdX4_clashes_0 (49, .iinc 1 1, 3) (List.mem_of_getElem? (i := 27) rfl)
theorem dX4_clashes_52 : decode cX4_clashes 52 = .ok (.iinc 3 1, 3) := bdX4_clashes_0 (52, .iinc 3 1, 3) (List.mem_of_getElem? (i := 28) rfl)
theorem dX4_clashes_55 : decode cX4_clashes 55 = .ok (.goto (-27), 3) := bdX4_clashes_0 (55, .goto (-27), 3) (List.mem_of_getElem? (i := 29) rfl)
theorem dX4_clashes_58 : decode cX4_clashes 58 = .ok (.iinc 2 1, 3) := bdX4_clashes_0 (58, .iinc 2 1, 3) (List.mem_of_getElem? (i := 30) rfl)
theorem dX4_clashes_61 : decode cX4_clashes 61 = .ok (.goto (-57), 3) := bdX4_clashes_0 (61, .goto (-57), 3) (List.mem_of_getElem? (i := 31) rfl)
theorem dX4_clashes_64 : decode cX4_clashes 64 = .ok (.iload_n 1, 1) := bdX4_clashes_0 (64, .iload_n 1, 1) (List.mem_of_getElem? (i := 32) rfl)
theorem dX4_clashes_65 : decode cX4_clashes 65 = .ok (.ireturn, 1) := bdX4_clashes_0 (65, .ireturn, 1) (List.mem_of_getElem? (i := 33) rfl)
theorem budX4_clashes_25 : ∀ q ∈ ([(25, .ok (.lastore, 1)), (38, .ok (.laload, 1)), (44, .ok (.laload, 1)), (45, .ok (.lcmp, 1))] : List (Nat × Except Jvm.ClassFile.DecodeError (Jvm.ClassFile.Instr × Nat))), decode cX4_clashes q.1 = q.2 := by decide +kernel
theorem dX4_clashes_25 : decode cX4_clashes 25 = .ok (.lastore, 1) := budX4_clashes_25 (25, .ok (.lastore, 1)) (List.mem_of_getElem? (i := 0) rfl)
theorem dX4_clashes_38 : decode cX4_clashes 38 = .ok (.laload, 1) := budX4_clashes_25 (38, .ok (.laload, 1)) (List.mem_of_getElem? (i := 1) rfl)
theorem dX4_clashes_44 : decode cX4_clashes 44 = .ok (.laload, 1) := budX4_clashes_25 (44, .ok (.laload, 1)) (List.mem_of_getElem? (i := 2) rfl)
theorem dX4_clashes_45 : decode cX4_clashes 45 = .ok (.lcmp, 1) := budX4_clashes_25 (45, .ok (.lcmp, 1)) (List.mem_of_getElem? (i := 3) rfl)
theorem fX4_15 : fldOK RX4 15 4 1 (.array .long) true := ⟨_, _, _, tyX4, ⟨rfl, iX4, by decide, rfl, by decide⟩, tw_158, ⟨tyX4_ok, nmX4⟩, by decide +kernel, rfl, rfl⟩
theorem kX4_108 : mthV RX4 108 4 yX4_packed prog_6_method_10_code 5 (Option.some Jvm.ClassFile.FieldType.long) 1 := ⟨⟨⟨tw_512, tw_62, tw_502⟩, rfl, by decide +kernel⟩, tw_500, tw_501, rfl⟩
def BX4_clashes_52 (ln : Nat → Nat) (post : Int32 → HC → Prop) (K4 : HC → Nat → Int32 → Int32 → Prop) (K28 : HC → Nat → Int32 → Int32 → Int32 → Prop) (S : HC) (x0 : Nat) (x1 : Int32) (x2 : Int32) (x3 : Int32) : Prop := lt_ (x3 + (1 : Int32)) fun z1 => K28 S x0 x1 x2 z1
def LX4_clashes_28 (ln : Nat → Nat) (post : Int32 → HC → Prop) (K4 : HC → Nat → Int32 → Int32 → Prop) : Nat → HC → Nat → Int32 → Int32 → Int32 → Prop
  | 0 => fun _ _ _ _ _ => False
  | n28 + 1 => fun S x0 x1 x2 x3 => if x2 ≤ x3 then (lt_ (x2 + (1 : Int32)) fun z2 => K4 S x0 x1 z2) else (dn_ (hR S x0 1) fun b3 => al_ (ln b3) x3 (hJ S b3) fun z4 => dn_ (hR S x0 1) fun b5 => al_ (ln b5) x2 (hJ S b5) fun z6 => lt_ (lg_cmp z4 z6) fun z7 => if z7 = 0 then (lt_ (x1 + (1 : Int32)) fun z8 => BX4_clashes_52 ln post K4 (LX4_clashes_28 ln post K4 n28) S x0 z8 x2 x3) else (BX4_clashes_52 ln post K4 (LX4_clashes_28 ln post K4 n28) S x0 x1 x2 x3))
def LX4_clashes_4 (ln : Nat → Nat) (post : Int32 → HC → Prop) : Nat → HC → Nat → Int32 → Int32 → Prop
  | 0 => fun _ _ _ _ => False
  | n4 + 1 => fun S x0 x1 x2 => dn_ (hR S x0 3) fun b9 => lt_ (hI S b9 6) fun z10 => if z10 ≤ x2 then (post x1 S) else (dn_ (hR S x0 1) fun b11 => wpX4_packed ln S x0 x2 fun z12 S => as_ (ln b11) x2 (fun j => sJ S b11 j z12) fun S => ∃ n28, LX4_clashes_28 ln post (LX4_clashes_4 ln post n4) n28 S x0 x1 x2 (0 : Int32))
def wpX4_clashes (ln : Nat → Nat) (S : HC) (a0 : Nat) (post : Int32 → HC → Prop) : Prop := ∃ n4, LX4_clashes_4 ln post n4 S a0 (0 : Int32) (0 : Int32)
abbrev rmX4_clashes : Room := { frames := 4, cells := 0, slots := 0, locals := 89 }
set_option maxHeartbeats 4000000 in
set_option maxRecDepth 100000 in
theorem ctX4_clashes {l : Launch} {g : GX} {N : Nat} {ln : Nat → Nat} {S : HC} {a0 : Nat} {post : Int32 → HC → Prop} (hr_a0 : a0 < N) (hk_a0 : kd a0 = 4) (h : wpX4_clashes ln S a0 post) : Met l yX4_clashes (Cond.code yX4_clashes prog_6_method_11_code 4 (Option.some Jvm.ClassFile.FieldType.int) :: gtbl) rmX4_clashes (va_Pc [.ref (gz g + a0)] (AtP g N ln S)) (QI g N ln post) 0 0 (gF g) := by
  refine m_of (by decide) (Nat.le_of_ble_eq_true rfl) ?_
  intro p e s m below meth c ls F hr I hl
  have hl : lv_has ls 4 [(0, .ref (gz g + a0))] := hl
  unfold wpX4_clashes at h
  have hl_4 : ∀ n4 : Nat, ∀ (S : HC) (H : Heap) (locs : List Loc) (ls : Array Slot) (x0 : Nat) (x1 : Int32) (x2 : Int32), x0 < N → kd x0 = 4 → LX4_clashes_4 ln post n4 S x0 x1 x2 → Inv g N ln S s H locs → lv_has ls 4 [(0, .ref (gz g + x0)), (1, .int x1), (2, .int x2)] → W p l e rmX4_clashes s m ([.ref (gz g + a0)] : List Value).toArray below meth c H locs 0 0 (MQ below (QI g N ln post) ([.ref (gz g + a0)] : List Value).toArray s 0 0 (gF g)) (F0 m 4 ls []) := by
    intro n4
    induction n4 with
    | zero =>
      intro S H locs ls x0 x1 x2 hr_x0 hk_x0 h I hl
      exact h.elim
    | succ n4 ih =>
      have hk4 := ih
      have hl_28 : ∀ n28 : Nat, ∀ (S : HC) (H : Heap) (locs : List Loc) (ls : Array Slot) (x0 : Nat) (x1 : Int32) (x2 : Int32) (x3 : Int32), x0 < N → kd x0 = 4 → LX4_clashes_28 ln post (LX4_clashes_4 ln post n4) n28 S x0 x1 x2 x3 → Inv g N ln S s H locs → lv_has ls 4 [(0, .ref (gz g + x0)), (1, .int x1), (2, .int x2), (3, .int x3)] → W p l e rmX4_clashes s m ([.ref (gz g + a0)] : List Value).toArray below meth c H locs 0 0 (MQ below (QI g N ln post) ([.ref (gz g + a0)] : List Value).toArray s 0 0 (gF g)) (F0 m 28 ls []) := by
        intro n28
        induction n28 with
        | zero =>
          intro S H locs ls x0 x1 x2 x3 hr_x0 hk_x0 h I hl
          exact h.elim
        | succ n28 ih =>
          have hk28 := ih
          have hj_52 : ∀ (S : HC) (H : Heap) (locs : List Loc) (ls : Array Slot) (x0 : Nat) (x1 : Int32) (x2 : Int32) (x3 : Int32), x0 < N → kd x0 = 4 → BX4_clashes_52 ln post (LX4_clashes_4 ln post n4) (LX4_clashes_28 ln post (LX4_clashes_4 ln post n4) n28) S x0 x1 x2 x3 → Inv g N ln S s H locs → lv_has ls 4 [(0, .ref (gz g + x0)), (1, .int x1), (2, .int x2), (3, .int x3)] → W p l e rmX4_clashes s m ([.ref (gz g + a0)] : List Value).toArray below meth c H locs 0 0 (MQ below (QI g N ln post) ([.ref (gz g + a0)] : List Value).toArray s 0 0 (gF g)) (F0 m 52 ls []) := by
            intro S H locs ls x0 x1 x2 x3 hr_x0 hk_x0 h I hl
            unfold BX4_clashes_52 at h
            obtain ⟨z1, e_z1, h⟩ := lt_x h
            refine lv_iinc (v := z1) (lv' := [(3, .int z1), (0, .ref (gz g + x0)), (1, .int x1), (2, .int x2)]) F.1 F.2.1 dX4_clashes_52 hl (k := 3) rfl (by rw [e_z1]; rfl) (by decide) rfl (fun ls hl => ?_)
            refine lv_goto (tgt := 28) F.1 F.2.1 dX4_clashes_55 (by decide) ?_
            exact hk28 S _ _ _ x0 x1 x2 z1 hr_x0 hk_x0 h I (lv_sub hl [1, 2, 3, 0] rfl)
          intro S H locs ls x0 x1 x2 x3 hr_x0 hk_x0 h I hl
          rw [LX4_clashes_28] at h
          refine lv_iload_n F.1 F.2.1 dX4_clashes_28 rfl (lv_at hl 3 rfl) ?_
          refine lv_iload_n F.1 F.2.1 dX4_clashes_29 rfl (lv_at hl 2 rfl) ?_
          refine r_icmp_ge (tgt := 58) F dX4_clashes_30 (by decide) h (fun h => ?_) (fun h => ?_)
          · obtain ⟨z2, e_z2, h⟩ := lt_x h
            refine lv_iinc (v := z2) (lv' := [(2, .int z2), (0, .ref (gz g + x0)), (1, .int x1), (3, .int x3)]) F.1 F.2.1 dX4_clashes_58 hl (k := 2) rfl (by rw [e_z2]; rfl) (by decide) rfl (fun ls hl => ?_)
            refine lv_goto (tgt := 4) F.1 F.2.1 dX4_clashes_61 (by decide) ?_
            exact hk4 S _ _ _ x0 x1 z2 hr_x0 hk_x0 h I (lv_sub hl [1, 2, 0] rfl)
          · refine lv_aload_n F.1 F.2.1 dX4_clashes_33 rfl (lv_at hl 0 rfl) ?_
            refine r_getN F I hr_x0 hk_x0 fX4_15 (f := 10) rfl (by decide) dX4_clashes_34 h (fun b3 hr_b3 hk_b3 h => ?_)
            refine lv_iload_n F.1 F.2.1 dX4_clashes_37 rfl (lv_at hl 3 rfl) ?_
            refine r_lald F I hr_b3 hk_b3 dX4_clashes_38 h (fun z4 h => ?_)
            refine lv_aload_n F.1 F.2.1 dX4_clashes_39 rfl (lv_at hl 0 rfl) ?_
            refine r_getN F I hr_x0 hk_x0 fX4_15 (f := 10) rfl (by decide) dX4_clashes_40 h (fun b5 hr_b5 hk_b5 h => ?_)
            refine lv_iload_n F.1 F.2.1 dX4_clashes_43 rfl (lv_at hl 2 rfl) ?_
            refine r_lald F I hr_b5 hk_b5 dX4_clashes_44 h (fun z6 h => ?_)
            refine r_lcmp F dX4_clashes_45 h (fun z7 h => ?_)
            refine r_if_ne (tgt := 52) F dX4_clashes_46 (by decide) h (fun h => ?_) (fun h => ?_)
            · exact hj_52 S _ _ _ x0 x1 x2 x3 hr_x0 hk_x0 h I (lv_sub hl [0, 1, 2, 3] rfl)
            · obtain ⟨z8, e_z8, h⟩ := lt_x h
              refine lv_iinc (v := z8) (lv' := [(1, .int z8), (0, .ref (gz g + x0)), (2, .int x2), (3, .int x3)]) F.1 F.2.1 dX4_clashes_49 hl (k := 1) rfl (by rw [e_z8]; rfl) (by decide) rfl (fun ls hl => ?_)
              exact hj_52 S _ _ _ x0 z8 x2 x3 hr_x0 hk_x0 h I (lv_sub hl [1, 0, 2, 3] rfl)
      intro S H locs ls x0 x1 x2 hr_x0 hk_x0 h I hl
      rw [LX4_clashes_4] at h
      refine lv_iload_n F.1 F.2.1 dX4_clashes_4 rfl (lv_at hl 2 rfl) ?_
      refine lv_aload_n F.1 F.2.1 dX4_clashes_5 rfl (lv_at hl 0 rfl) ?_
      refine r_getN F I hr_x0 hk_x0 fX4_25 (f := 0) rfl (by decide) dX4_clashes_6 h (fun b9 hr_b9 hk_b9 h => ?_)
      refine r_getI F I hr_b9 hk_b9 fX4_52 rfl dX4_clashes_9 h (fun z10 h => ?_)
      refine r_icmp_ge (tgt := 64) F dX4_clashes_12 (by decide) h (fun h => ?_) (fun h => ?_)
      · refine lv_iload_n F.1 F.2.1 dX4_clashes_64 rfl (lv_at hl 1 rfl) ?_
        exact r_ireturn F I ⟨hr.1, hr.2.1, trivial⟩ h dX4_clashes_65
      · refine lv_aload_n F.1 F.2.1 dX4_clashes_15 rfl (lv_at hl 0 rfl) ?_
        refine r_getN F I hr_x0 hk_x0 fX4_15 (f := 10) rfl (by decide) dX4_clashes_16 h (fun b11 hr_b11 hk_b11 h => ?_)
        refine lv_iload_n F.1 F.2.1 dX4_clashes_19 rfl (lv_at hl 2 rfl) ?_
        refine lv_aload_n F.1 F.2.1 dX4_clashes_20 rfl (lv_at hl 0 rfl) ?_
        refine lv_iload_n F.1 F.2.1 dX4_clashes_21 rfl (lv_at hl 2 rfl) ?_
        refine g_L I (run_V (As := [.int x2]) (rest := [.int x2, .ref (gz g + b11)]) F I hr_x0 hk_x0 (by decide) kX4_108 (ctX4_packed hr_x0 hk_x0 h) ⟨rfl, rfl⟩ ⟨Nat.le_of_ble_eq_true rfl, Nat.le_of_ble_eq_true rfl⟩ rfl hl.1 rfl (Nat.le_of_ble_eq_true rfl) ⟨Nat.le_of_ble_eq_true rfl, Nat.le_of_ble_eq_true rfl⟩ dX4_clashes_22) (fun z12 S H locs I h => ?_)
        refine r_last F I hr_b11 hk_b11 dX4_clashes_25 h (fun S H locs I h => ?_)
        refine lv_iconst (v := 0) F.1 F.2.1 dX4_clashes_26 (by decide) ?_
        refine lv_istore_n (lv' := [(3, .int (0 : Int32)), (0, .ref (gz g + x0)), (1, .int x1), (2, .int x2)]) F.1 F.2.1 dX4_clashes_27 rfl hl (by decide) rfl (fun ls hl => ?_)
        obtain ⟨n28, h⟩ := h
        exact hl_28 n28 S _ _ _ x0 x1 x2 (0 : Int32) hr_x0 hk_x0 h I (lv_sub hl [1, 2, 3, 0] rfl)
  refine lv_iconst (v := 0) F.1 F.2.1 dX4_clashes_0 (by decide) ?_
  refine lv_istore_n (lv' := [(1, .int (0 : Int32)), (0, .ref (gz g + a0))]) F.1 F.2.1 dX4_clashes_1 rfl hl (by decide) rfl (fun ls hl => ?_)
  refine lv_iconst (v := 0) F.1 F.2.1 dX4_clashes_2 (by decide) ?_
  refine lv_istore_n (lv' := [(2, .int (0 : Int32)), (1, .int (0 : Int32)), (0, .ref (gz g + a0))]) F.1 F.2.1 dX4_clashes_3 rfl hl (by decide) rfl (fun ls hl => ?_)
  obtain ⟨n4, h⟩ := h
  exact hl_4 n4 S _ _ _ a0 (0 : Int32) (0 : Int32) hr_a0 hk_a0 h I (lv_sub hl [2, 1, 0] rfl)
theorem bdX4_together_0 : ∀ q ∈ ([(0, .iconst 0, 1), (1, .istore_n 2, 1), (2, .iconst 0, 1), (3, .istore_n 3, 1), (4, .iload_n 3, 1), (5, .aload_n 0, 1), (6, .getfield 25, 3), (9, .getfield 52, 3), (12, .if_icmp .ge 18, 3), (15, .iload_n 2, 1), (16, .aload_n 0, 1), (17, .iload_n 3, 1), (18, .iload_n 1, 1), (19, .invokevirtual 105, 3), (22, .iadd, 1), (23, .istore_n 2, 1), (24, .iinc 3 1, 3), (27, .goto (-23), 3), (30, .iload_n 2, 1), (31, .ireturn, 1)] : List (Nat × Jvm.ClassFile.Instr × Nat)), decode cX4_together q.1 = .ok q.2 := chk_ok _ 0 _ rfl (by decide +kernel)
theorem dX4_together_0 : decode cX4_together 0 = .ok (.iconst 0, 1) := bdX4_together_0 (0, .iconst 0, 1) (List.mem_of_getElem? (i := 0) rfl)
theorem dX4_together_1 : decode cX4_together 1 = .ok (.istore_n 2, 1) := bdX4_together_0 (1, .istore_n 2, 1) (List.mem_of_getElem? (i := 1) rfl)
theorem dX4_together_2 : decode cX4_together 2 = .ok (.iconst 0, 1) := bdX4_together_0 (2, .iconst 0, 1) (List.mem_of_getElem? (i := 2) rfl)
theorem dX4_together_3 : decode cX4_together 3 = .ok (.istore_n 3, 1) := bdX4_together_0 (3, .istore_n 3, 1) (List.mem_of_getElem? (i := 3) rfl)
theorem dX4_together_4 : decode cX4_together 4 = .ok (.iload_n 3, 1) := bdX4_together_0 (4, .iload_n 3, 1) (List.mem_of_getElem? (i := 4) rfl)
theorem dX4_together_5 : decode cX4_together 5 = .ok (.aload_n 0, 1) := bdX4_together_0 (5, .aload_n 0, 1) (List.mem_of_getElem? (i := 5) rfl)
theorem dX4_together_6 : decode cX4_together 6 = .ok (.getfield 25, 3) := bdX4_together_0 (6, .getfield 25, 3) (List.mem_of_getElem? (i := 6) rfl)
theorem dX4_together_9 : decode cX4_together 9 = .ok (.getfield 52, 3) := bdX4_together_0 (9, .getfield 52, 3) (List.mem_of_getElem? (i := 7) rfl)
theorem dX4_together_12 : decode cX4_together 12 = .ok (.if_icmp .ge 18, 3) := bdX4_together_0 (12, .if_icmp .ge 18, 3) (List.mem_of_getElem? (i := 8) rfl)
theorem dX4_together_15 : decode cX4_together 15 = .ok (.iload_n 2, 1) := bdX4_together_0 (15, .iload_n 2, 1) (List.mem_of_getElem? (i := 9) rfl)
theorem dX4_together_16 : decode cX4_together 16 = .ok (.aload_n 0, 1) := bdX4_together_0 (16, .aload_n 0, 1) (List.mem_of_getElem? (i := 10) rfl)
theorem dX4_together_17 : decode cX4_together 17 = .ok (.iload_n 3, 1) := bdX4_together_0 (17, .iload_n 3, 1) (List.mem_of_getElem? (i := 11) rfl)
theorem dX4_together_18 : decode cX4_together 18 = .ok (.iload_n 1, 1) := bdX4_together_0 (18, .iload_n 1, 1) (List.mem_of_getElem? (i := 12) rfl)
theorem dX4_together_19 : decode cX4_together 19 = .ok (.invokevirtual 105, 3) := bdX4_together_0 (19, .invokevirtual 105, 3) (List.mem_of_getElem? (i := 13) rfl)
theorem dX4_together_22 : decode cX4_together 22 = .ok (.iadd, 1) := bdX4_together_0 (22, .iadd, 1) (List.mem_of_getElem? (i := 14) rfl)
theorem dX4_together_23 : decode cX4_together 23 = .ok (.istore_n 2, 1) := bdX4_together_0 (23, .istore_n 2, 1) (List.mem_of_getElem? (i := 15) rfl)
theorem dX4_together_24 : decode cX4_together 24 = .ok (.iinc 3 1, 3) := bdX4_together_0 (24, .iinc 3 1, 3) (List.mem_of_getElem? (i := 16) rfl)
theorem dX4_together_27 : decode cX4_together 27 = .ok (.goto (-23), 3) := bdX4_together_0 (27, .goto (-23), 3) (List.mem_of_getElem? (i := 17) rfl)
theorem dX4_together_30 : decode cX4_together 30 = .ok (.iload_n 2, 1) := bdX4_together_0 (30, .iload_n 2, 1) (List.mem_of_getElem? (i := 18) rfl)
theorem dX4_together_31 : decode cX4_together 31 = .ok (.ireturn, 1) := bdX4_together_0 (31, .ireturn, 1) (List.mem_of_getElem? (i := 19) rfl)
def LX4_together_4 (ln : Nat → Nat) (post : Int32 → HC → Prop) : Nat → HC → Nat → Int32 → Int32 → Int32 → Prop
  | 0 => fun _ _ _ _ _ => False
  | n4 + 1 => fun S x0 x1 x2 x3 => dn_ (hR S x0 3) fun b1 => lt_ (hI S b1 6) fun z2 => if z2 ≤ x3 then (post x2 S) else (wpX4_shown ln S x0 x3 x1 fun z3 S => lt_ (x2 + z3) fun z4 => lt_ (x3 + (1 : Int32)) fun z5 => (LX4_together_4 ln post n4) S x0 x1 z4 z5)
def wpX4_together (ln : Nat → Nat) (S : HC) (a0 : Nat) (a1 : Int32) (post : Int32 → HC → Prop) : Prop := ∃ n4, LX4_together_4 ln post n4 S a0 a1 (0 : Int32) (0 : Int32)
abbrev rmX4_together : Room := { frames := 3, cells := 0, slots := 0, locals := 65 }
set_option maxHeartbeats 4000000 in
set_option maxRecDepth 100000 in
theorem ctX4_together {l : Launch} {g : GX} {N : Nat} {ln : Nat → Nat} {S : HC} {a0 : Nat} {a1 : Int32} {post : Int32 → HC → Prop} (hr_a0 : a0 < N) (hk_a0 : kd a0 = 4) (h : wpX4_together ln S a0 a1 post) : Met l yX4_together (Cond.code yX4_together prog_6_method_12_code 4 (Option.some Jvm.ClassFile.FieldType.int) :: gtbl) rmX4_together (va_Pc [.ref (gz g + a0), .int a1] (AtP g N ln S)) (QI g N ln post) 0 0 (gF g) := by
  refine m_of (by decide) (Nat.le_of_ble_eq_true rfl) ?_
  intro p e s m below meth c ls F hr I hl
  have hl : lv_has ls 4 [(0, .ref (gz g + a0)), (1, .int a1)] := hl
  unfold wpX4_together at h
  have hl_4 : ∀ n4 : Nat, ∀ (S : HC) (H : Heap) (locs : List Loc) (ls : Array Slot) (x0 : Nat) (x1 : Int32) (x2 : Int32) (x3 : Int32), x0 < N → kd x0 = 4 → LX4_together_4 ln post n4 S x0 x1 x2 x3 → Inv g N ln S s H locs → lv_has ls 4 [(0, .ref (gz g + x0)), (1, .int x1), (2, .int x2), (3, .int x3)] → W p l e rmX4_together s m ([.ref (gz g + a0), .int a1] : List Value).toArray below meth c H locs 0 0 (MQ below (QI g N ln post) ([.ref (gz g + a0), .int a1] : List Value).toArray s 0 0 (gF g)) (F0 m 4 ls []) := by
    intro n4
    induction n4 with
    | zero =>
      intro S H locs ls x0 x1 x2 x3 hr_x0 hk_x0 h I hl
      exact h.elim
    | succ n4 ih =>
      have hk4 := ih
      intro S H locs ls x0 x1 x2 x3 hr_x0 hk_x0 h I hl
      rw [LX4_together_4] at h
      refine lv_iload_n F.1 F.2.1 dX4_together_4 rfl (lv_at hl 3 rfl) ?_
      refine lv_aload_n F.1 F.2.1 dX4_together_5 rfl (lv_at hl 0 rfl) ?_
      refine r_getN F I hr_x0 hk_x0 fX4_25 (f := 0) rfl (by decide) dX4_together_6 h (fun b1 hr_b1 hk_b1 h => ?_)
      refine r_getI F I hr_b1 hk_b1 fX4_52 rfl dX4_together_9 h (fun z2 h => ?_)
      refine r_icmp_ge (tgt := 30) F dX4_together_12 (by decide) h (fun h => ?_) (fun h => ?_)
      · refine lv_iload_n F.1 F.2.1 dX4_together_30 rfl (lv_at hl 2 rfl) ?_
        exact r_ireturn F I ⟨hr.1, hr.2.1, trivial⟩ h dX4_together_31
      · refine lv_iload_n F.1 F.2.1 dX4_together_15 rfl (lv_at hl 2 rfl) ?_
        refine lv_aload_n F.1 F.2.1 dX4_together_16 rfl (lv_at hl 0 rfl) ?_
        refine lv_iload_n F.1 F.2.1 dX4_together_17 rfl (lv_at hl 3 rfl) ?_
        refine lv_iload_n F.1 F.2.1 dX4_together_18 rfl (lv_at hl 1 rfl) ?_
        refine g_I I (run_V (As := [.int x3, .int x1]) (rest := [.int x2]) F I hr_x0 hk_x0 (by decide) kX4_105 (ctX4_shown hr_x0 hk_x0 h) ⟨rfl, rfl⟩ ⟨Nat.le_of_ble_eq_true rfl, Nat.le_of_ble_eq_true rfl⟩ rfl hl.1 rfl (Nat.le_of_ble_eq_true rfl) ⟨Nat.le_of_ble_eq_true rfl, Nat.le_of_ble_eq_true rfl⟩ dX4_together_19) (fun z3 S H locs I h => ?_)
        refine r_iadd F dX4_together_22 h (fun z4 h => ?_)
        refine lv_istore_n (lv' := [(2, .int z4), (0, .ref (gz g + x0)), (1, .int x1), (3, .int x3)]) F.1 F.2.1 dX4_together_23 rfl hl (by decide) rfl (fun ls hl => ?_)
        obtain ⟨z5, e_z5, h⟩ := lt_x h
        refine lv_iinc (v := z5) (lv' := [(3, .int z5), (2, .int z4), (0, .ref (gz g + x0)), (1, .int x1)]) F.1 F.2.1 dX4_together_24 hl (k := 3) rfl (by rw [e_z5]; rfl) (by decide) rfl (fun ls hl => ?_)
        refine lv_goto (tgt := 4) F.1 F.2.1 dX4_together_27 (by decide) ?_
        exact hk4 S _ _ _ x0 x1 z4 z5 hr_x0 hk_x0 h I (lv_sub hl [2, 3, 1, 0] rfl)
  refine lv_iconst (v := 0) F.1 F.2.1 dX4_together_0 (by decide) ?_
  refine lv_istore_n (lv' := [(2, .int (0 : Int32)), (0, .ref (gz g + a0)), (1, .int a1)]) F.1 F.2.1 dX4_together_1 rfl hl (by decide) rfl (fun ls hl => ?_)
  refine lv_iconst (v := 0) F.1 F.2.1 dX4_together_2 (by decide) ?_
  refine lv_istore_n (lv' := [(3, .int (0 : Int32)), (2, .int (0 : Int32)), (0, .ref (gz g + a0)), (1, .int a1)]) F.1 F.2.1 dX4_together_3 rfl hl (by decide) rfl (fun ls hl => ?_)
  obtain ⟨n4, h⟩ := h
  exact hl_4 n4 S _ _ _ a0 a1 (0 : Int32) (0 : Int32) hr_a0 hk_a0 h I (lv_sub hl [2, 3, 1, 0] rfl)
theorem bdX4_bearersOf_0 : ∀ q ∈ ([(0, .iconst 0, 1), (1, .istore_n 3, 1), (2, .iconst 0, 1), (3, .istore 4, 2), (5, .iload 4, 2), (7, .aload_n 0, 1), (8, .getfield 25, 3), (11, .getfield 52, 3), (14, .if_icmp .ge 27, 3), (17, .aload_n 0, 1), (18, .iload 4, 2), (20, .iload_n 1, 1), (21, .invokevirtual 105, 3), (24, .iload_n 2, 1), (25, .if_icmp .lt 10, 3), (28, .iload_n 3, 1), (29, .iconst 1, 1), (30, .iload 4, 2), (34, .istore_n 3, 1), (35, .iinc 4 1, 3), (38, .goto (-33), 3), (41, .iload_n 3, 1), (42, .ireturn, 1)] : List (Nat × Jvm.ClassFile.Instr × Nat)), decode cX4_bearersOf q.1 = .ok q.2 := chk_ok _ 0 _ rfl (by decide +kernel)
theorem dX4_bearersOf_0 : decode cX4_bearersOf 0 = .ok (.iconst 0, 1) := bdX4_bearersOf_0 (0, .iconst 0, 1) (List.mem_of_getElem? (i := 0) rfl)
theorem dX4_bearersOf_1 : decode cX4_bearersOf 1 = .ok (.istore_n 3, 1) := bdX4_bearersOf_0 (1, .istore_n 3, 1) (List.mem_of_getElem? (i := 1) rfl)
theorem dX4_bearersOf_2 : decode cX4_bearersOf 2 = .ok (.iconst 0, 1) := bdX4_bearersOf_0 (2, .iconst 0, 1) (List.mem_of_getElem? (i := 2) rfl)
theorem dX4_bearersOf_3 : decode cX4_bearersOf 3 = .ok (.istore 4, 2) := bdX4_bearersOf_0 (3, .istore 4, 2) (List.mem_of_getElem? (i := 3) rfl)
theorem dX4_bearersOf_5 : decode cX4_bearersOf 5 = .ok (.iload 4, 2) := bdX4_bearersOf_0 (5, .iload 4, 2) (List.mem_of_getElem? (i := 4) rfl)
theorem dX4_bearersOf_7 : decode cX4_bearersOf 7 = .ok (.aload_n 0, 1) := bdX4_bearersOf_0 (7, .aload_n 0, 1) (List.mem_of_getElem? (i := 5) rfl)
theorem dX4_bearersOf_8 : decode cX4_bearersOf 8 = .ok (.getfield 25, 3) := bdX4_bearersOf_0 (8, .getfield 25, 3) (List.mem_of_getElem? (i := 6) rfl)
theorem dX4_bearersOf_11 : decode cX4_bearersOf 11 = .ok (.getfield 52, 3) := bdX4_bearersOf_0 (11, .getfield 52, 3) (List.mem_of_getElem? (i := 7) rfl)
theorem dX4_bearersOf_14 : decode cX4_bearersOf 14 = .ok (.if_icmp .ge 27, 3) := bdX4_bearersOf_0 (14, .if_icmp .ge 27, 3) (List.mem_of_getElem? (i := 8) rfl)
theorem dX4_bearersOf_17 : decode cX4_bearersOf 17 = .ok (.aload_n 0, 1) := bdX4_bearersOf_0 (17, .aload_n 0, 1) (List.mem_of_getElem? (i := 9) rfl)
theorem dX4_bearersOf_18 : decode cX4_bearersOf 18 = .ok (.iload 4, 2) := bdX4_bearersOf_0 (18, .iload 4, 2) (List.mem_of_getElem? (i := 10) rfl)
theorem dX4_bearersOf_20 : decode cX4_bearersOf 20 = .ok (.iload_n 1, 1) := bdX4_bearersOf_0 (20, .iload_n 1, 1) (List.mem_of_getElem? (i := 11) rfl)
theorem dX4_bearersOf_21 : decode cX4_bearersOf 21 = .ok (.invokevirtual 105, 3) := bdX4_bearersOf_0 (21, .invokevirtual 105, 3) (List.mem_of_getElem? (i := 12) rfl)
theorem dX4_bearersOf_24 : decode cX4_bearersOf 24 = .ok (.iload_n 2, 1) := bdX4_bearersOf_0 (24, .iload_n 2, 1) (List.mem_of_getElem? (i := 13) rfl)
theorem dX4_bearersOf_25 : decode cX4_bearersOf 25 = .ok (.if_icmp .lt 10, 3) := bdX4_bearersOf_0 (25, .if_icmp .lt 10, 3) (List.mem_of_getElem? (i := 14) rfl)
theorem dX4_bearersOf_28 : decode cX4_bearersOf 28 = .ok (.iload_n 3, 1) := bdX4_bearersOf_0 (28, .iload_n 3, 1) (List.mem_of_getElem? (i := 15) rfl)
theorem dX4_bearersOf_29 : decode cX4_bearersOf 29 = .ok (.iconst 1, 1) := bdX4_bearersOf_0 (29, .iconst 1, 1) (List.mem_of_getElem? (i := 16) rfl)
theorem dX4_bearersOf_30 : decode cX4_bearersOf 30 = .ok (.iload 4, 2) := bdX4_bearersOf_0 (30, .iload 4, 2) (List.mem_of_getElem? (i := 17) rfl)
theorem dX4_bearersOf_34 : decode cX4_bearersOf 34 = .ok (.istore_n 3, 1) := bdX4_bearersOf_0 (34, .istore_n 3, 1) (List.mem_of_getElem? (i := 18) rfl)
theorem dX4_bearersOf_35 : decode cX4_bearersOf 35 = .ok (.iinc 4 1, 3) := bdX4_bearersOf_0 (35, .iinc 4 1, 3) (List.mem_of_getElem? (i := 19) rfl)
theorem dX4_bearersOf_38 : decode cX4_bearersOf 38 = .ok (.goto (-33), 3) := bdX4_bearersOf_0 (38, .goto (-33), 3) (List.mem_of_getElem? (i := 20) rfl)
theorem dX4_bearersOf_41 : decode cX4_bearersOf 41 = .ok (.iload_n 3, 1) := bdX4_bearersOf_0 (41, .iload_n 3, 1) (List.mem_of_getElem? (i := 21) rfl)
theorem dX4_bearersOf_42 : decode cX4_bearersOf 42 = .ok (.ireturn, 1) := bdX4_bearersOf_0 (42, .ireturn, 1) (List.mem_of_getElem? (i := 22) rfl)
theorem dX4_bearersOf_32 : decode cX4_bearersOf 32 = .ok (.ishl, 1) := by decide +kernel
theorem dX4_bearersOf_33 : decode cX4_bearersOf 33 = .ok (.ior, 1) := by decide +kernel
def BX4_bearersOf_35 (ln : Nat → Nat) (post : Int32 → HC → Prop) (K5 : HC → Nat → Int32 → Int32 → Int32 → Int32 → Prop) (S : HC) (x0 : Nat) (x1 : Int32) (x2 : Int32) (x3 : Int32) (x4 : Int32) : Prop := lt_ (x4 + (1 : Int32)) fun z1 => K5 S x0 x1 x2 x3 z1
def LX4_bearersOf_5 (ln : Nat → Nat) (post : Int32 → HC → Prop) : Nat → HC → Nat → Int32 → Int32 → Int32 → Int32 → Prop
  | 0 => fun _ _ _ _ _ _ => False
  | n5 + 1 => fun S x0 x1 x2 x3 x4 => dn_ (hR S x0 3) fun b2 => lt_ (hI S b2 6) fun z3 => if z3 ≤ x4 then (post x3 S) else (wpX4_shown ln S x0 x4 x1 fun z4 S => if z4 < x2 then (BX4_bearersOf_35 ln post (LX4_bearersOf_5 ln post n5) S x0 x1 x2 x3 x4) else (lt_ ((1 : Int32) <<< (x4 &&& 31)) fun z5 => lt_ (x3 ||| z5) fun z6 => BX4_bearersOf_35 ln post (LX4_bearersOf_5 ln post n5) S x0 x1 x2 z6 x4))
def wpX4_bearersOf (ln : Nat → Nat) (S : HC) (a0 : Nat) (a1 : Int32) (a2 : Int32) (post : Int32 → HC → Prop) : Prop := ∃ n5, LX4_bearersOf_5 ln post n5 S a0 a1 a2 (0 : Int32) (0 : Int32)
abbrev rmX4_bearersOf : Room := { frames := 3, cells := 0, slots := 0, locals := 65 }
set_option maxHeartbeats 4000000 in
set_option maxRecDepth 100000 in
theorem ctX4_bearersOf {l : Launch} {g : GX} {N : Nat} {ln : Nat → Nat} {S : HC} {a0 : Nat} {a1 : Int32} {a2 : Int32} {post : Int32 → HC → Prop} (hr_a0 : a0 < N) (hk_a0 : kd a0 = 4) (h : wpX4_bearersOf ln S a0 a1 a2 post) : Met l yX4_bearersOf (Cond.code yX4_bearersOf prog_6_method_13_code 5 (Option.some Jvm.ClassFile.FieldType.int) :: gtbl) rmX4_bearersOf (va_Pc [.ref (gz g + a0), .int a1, .int a2] (AtP g N ln S)) (QI g N ln post) 0 0 (gF g) := by
  refine m_of (by decide) (Nat.le_of_ble_eq_true rfl) ?_
  intro p e s m below meth c ls F hr I hl
  have hl : lv_has ls 5 [(0, .ref (gz g + a0)), (1, .int a1), (2, .int a2)] := hl
  unfold wpX4_bearersOf at h
  have hl_5 : ∀ n5 : Nat, ∀ (S : HC) (H : Heap) (locs : List Loc) (ls : Array Slot) (x0 : Nat) (x1 : Int32) (x2 : Int32) (x3 : Int32) (x4 : Int32), x0 < N → kd x0 = 4 → LX4_bearersOf_5 ln post n5 S x0 x1 x2 x3 x4 → Inv g N ln S s H locs → lv_has ls 5 [(0, .ref (gz g + x0)), (1, .int x1), (2, .int x2), (3, .int x3), (4, .int x4)] → W p l e rmX4_bearersOf s m ([.ref (gz g + a0), .int a1, .int a2] : List Value).toArray below meth c H locs 0 0 (MQ below (QI g N ln post) ([.ref (gz g + a0), .int a1, .int a2] : List Value).toArray s 0 0 (gF g)) (F0 m 5 ls []) := by
    intro n5
    induction n5 with
    | zero =>
      intro S H locs ls x0 x1 x2 x3 x4 hr_x0 hk_x0 h I hl
      exact h.elim
    | succ n5 ih =>
      have hk5 := ih
      have hj_35 : ∀ (S : HC) (H : Heap) (locs : List Loc) (ls : Array Slot) (x0 : Nat) (x1 : Int32) (x2 : Int32) (x3 : Int32) (x4 : Int32), x0 < N → kd x0 = 4 → BX4_bearersOf_35 ln post (LX4_bearersOf_5 ln post n5) S x0 x1 x2 x3 x4 → Inv g N ln S s H locs → lv_has ls 5 [(0, .ref (gz g + x0)), (1, .int x1), (2, .int x2), (3, .int x3), (4, .int x4)] → W p l e rmX4_bearersOf s m ([.ref (gz g + a0), .int a1, .int a2] : List Value).toArray below meth c H locs 0 0 (MQ below (QI g N ln post) ([.ref (gz g + a0), .int a1, .int a2] : List Value).toArray s 0 0 (gF g)) (F0 m 35 ls []) := by
        intro S H locs ls x0 x1 x2 x3 x4 hr_x0 hk_x0 h I hl
        unfold BX4_bearersOf_35 at h
        obtain ⟨z1, e_z1, h⟩ := lt_x h
        refine lv_iinc (v := z1) (lv' := [(4, .int z1), (0, .ref (gz g + x0)), (1, .int x1), (2, .int x2), (3, .int x3)]) F.1 F.2.1 dX4_bearersOf_35 hl (k := 4) rfl (by rw [e_z1]; rfl) (by decide) rfl (fun ls hl => ?_)
        refine lv_goto (tgt := 5) F.1 F.2.1 dX4_bearersOf_38 (by decide) ?_
        exact hk5 S _ _ _ x0 x1 x2 x3 z1 hr_x0 hk_x0 h I (lv_sub hl [1, 2, 3, 4, 0] rfl)
      intro S H locs ls x0 x1 x2 x3 x4 hr_x0 hk_x0 h I hl
      rw [LX4_bearersOf_5] at h
      refine lv_iload F.1 F.2.1 dX4_bearersOf_5 (lv_at hl 4 rfl) ?_
      refine lv_aload_n F.1 F.2.1 dX4_bearersOf_7 rfl (lv_at hl 0 rfl) ?_
      refine r_getN F I hr_x0 hk_x0 fX4_25 (f := 0) rfl (by decide) dX4_bearersOf_8 h (fun b2 hr_b2 hk_b2 h => ?_)
      refine r_getI F I hr_b2 hk_b2 fX4_52 rfl dX4_bearersOf_11 h (fun z3 h => ?_)
      refine r_icmp_ge (tgt := 41) F dX4_bearersOf_14 (by decide) h (fun h => ?_) (fun h => ?_)
      · refine lv_iload_n F.1 F.2.1 dX4_bearersOf_41 rfl (lv_at hl 3 rfl) ?_
        exact r_ireturn F I ⟨hr.1, hr.2.1, trivial⟩ h dX4_bearersOf_42
      · refine lv_aload_n F.1 F.2.1 dX4_bearersOf_17 rfl (lv_at hl 0 rfl) ?_
        refine lv_iload F.1 F.2.1 dX4_bearersOf_18 (lv_at hl 4 rfl) ?_
        refine lv_iload_n F.1 F.2.1 dX4_bearersOf_20 rfl (lv_at hl 1 rfl) ?_
        refine g_I I (run_V (As := [.int x4, .int x1]) (rest := []) F I hr_x0 hk_x0 (by decide) kX4_105 (ctX4_shown hr_x0 hk_x0 h) ⟨rfl, rfl⟩ ⟨Nat.le_of_ble_eq_true rfl, Nat.le_of_ble_eq_true rfl⟩ rfl hl.1 rfl (Nat.le_of_ble_eq_true rfl) ⟨Nat.le_of_ble_eq_true rfl, Nat.le_of_ble_eq_true rfl⟩ dX4_bearersOf_21) (fun z4 S H locs I h => ?_)
        refine lv_iload_n F.1 F.2.1 dX4_bearersOf_24 rfl (lv_at hl 2 rfl) ?_
        refine r_icmp_lt (tgt := 35) F dX4_bearersOf_25 (by decide) h (fun h => ?_) (fun h => ?_)
        · exact hj_35 S _ _ _ x0 x1 x2 x3 x4 hr_x0 hk_x0 h I (lv_sub hl [0, 1, 2, 3, 4] rfl)
        · refine lv_iload_n F.1 F.2.1 dX4_bearersOf_28 rfl (lv_at hl 3 rfl) ?_
          refine lv_iconst (v := 1) F.1 F.2.1 dX4_bearersOf_29 (by decide) ?_
          refine lv_iload F.1 F.2.1 dX4_bearersOf_30 (lv_at hl 4 rfl) ?_
          refine r_ishl F dX4_bearersOf_32 h (fun z5 h => ?_)
          refine r_ior F dX4_bearersOf_33 h (fun z6 h => ?_)
          refine lv_istore_n (lv' := [(3, .int z6), (0, .ref (gz g + x0)), (1, .int x1), (2, .int x2), (4, .int x4)]) F.1 F.2.1 dX4_bearersOf_34 rfl hl (by decide) rfl (fun ls hl => ?_)
          exact hj_35 S _ _ _ x0 x1 x2 z6 x4 hr_x0 hk_x0 h I (lv_sub hl [1, 2, 3, 0, 4] rfl)
  refine lv_iconst (v := 0) F.1 F.2.1 dX4_bearersOf_0 (by decide) ?_
  refine lv_istore_n (lv' := [(3, .int (0 : Int32)), (0, .ref (gz g + a0)), (1, .int a1), (2, .int a2)]) F.1 F.2.1 dX4_bearersOf_1 rfl hl (by decide) rfl (fun ls hl => ?_)
  refine lv_iconst (v := 0) F.1 F.2.1 dX4_bearersOf_2 (by decide) ?_
  refine lv_istore (lv' := [(4, .int (0 : Int32)), (3, .int (0 : Int32)), (0, .ref (gz g + a0)), (1, .int a1), (2, .int a2)]) F.1 F.2.1 dX4_bearersOf_3 hl (by decide) rfl (fun ls hl => ?_)
  obtain ⟨n5, h⟩ := h
  exact hl_5 n5 S _ _ _ a0 a1 a2 (0 : Int32) (0 : Int32) hr_a0 hk_a0 h I (lv_sub hl [2, 3, 4, 1, 0] rfl)
theorem bdX4_apart_0 : ∀ q ∈ ([(0, .iconst 0, 1), (1, .istore_n 3, 1), (2, .iconst 0, 1), (3, .istore 4, 2), (5, .iload 4, 2), (7, .bipush 8, 2), (9, .if_icmp .ge 39, 3), (12, .aload_n 2, 1), (13, .iload 4, 2), (15, .invokevirtual 112, 3), (18, .ifCond .eq 24, 3), (21, .iload_n 3, 1), (22, .aload_n 0, 1), (23, .iload_n 1, 1), (24, .iload 4, 2), (26, .invokevirtual 105, 3), (29, .aload_n 2, 1), (30, .getfield 117, 3), (33, .iload 4, 2), (35, .iaload, 1), (36, .isub, 1), (37, .invokestatic 120, 3), (40, .iadd, 1), (41, .istore_n 3, 1), (42, .iinc 4 1, 3), (45, .goto (-40), 3), (48, .iload_n 3, 1), (49, .ireturn, 1)] : List (Nat × Jvm.ClassFile.Instr × Nat)), decode cX4_apart q.1 = .ok q.2 := chk_ok _ 0 _ rfl (by decide +kernel)
theorem dX4_apart_0 : decode cX4_apart 0 = .ok (.iconst 0, 1) := bdX4_apart_0 (0, .iconst 0, 1) (List.mem_of_getElem? (i := 0) rfl)
theorem dX4_apart_1 : decode cX4_apart 1 = .ok (.istore_n 3, 1) := bdX4_apart_0 (1, .istore_n 3, 1) (List.mem_of_getElem? (i := 1) rfl)
theorem dX4_apart_2 : decode cX4_apart 2 = .ok (.iconst 0, 1) := bdX4_apart_0 (2, .iconst 0, 1) (List.mem_of_getElem? (i := 2) rfl)
theorem dX4_apart_3 : decode cX4_apart 3 = .ok (.istore 4, 2) := bdX4_apart_0 (3, .istore 4, 2) (List.mem_of_getElem? (i := 3) rfl)
theorem dX4_apart_5 : decode cX4_apart 5 = .ok (.iload 4, 2) := bdX4_apart_0 (5, .iload 4, 2) (List.mem_of_getElem? (i := 4) rfl)
theorem dX4_apart_7 : decode cX4_apart 7 = .ok (.bipush 8, 2) := bdX4_apart_0 (7, .bipush 8, 2) (List.mem_of_getElem? (i := 5) rfl)
theorem dX4_apart_9 : decode cX4_apart 9 = .ok (.if_icmp .ge 39, 3) := bdX4_apart_0 (9, .if_icmp .ge 39, 3) (List.mem_of_getElem? (i := 6) rfl)
theorem dX4_apart_12 : decode cX4_apart 12 = .ok (.aload_n 2, 1) := bdX4_apart_0 (12, .aload_n 2, 1) (List.mem_of_getElem? (i := 7) rfl)
theorem dX4_apart_13 : decode cX4_apart 13 = .ok (.iload 4, 2) := bdX4_apart_0 (13, .iload 4, 2) (List.mem_of_getElem? (i := 8) rfl)
theorem dX4_apart_15 : decode cX4_apart 15 = .ok (.invokevirtual 112, 3) := bdX4_apart_0 (15, .invokevirtual 112, 3) (List.mem_of_getElem? (i := 9) rfl)
theorem dX4_apart_18 : decode cX4_apart 18 = .ok (.ifCond .eq 24, 3) := bdX4_apart_0 (18, .ifCond .eq 24, 3) (List.mem_of_getElem? (i := 10) rfl)
theorem dX4_apart_21 : decode cX4_apart 21 = .ok (.iload_n 3, 1) := bdX4_apart_0 (21, .iload_n 3, 1) (List.mem_of_getElem? (i := 11) rfl)
theorem dX4_apart_22 : decode cX4_apart 22 = .ok (.aload_n 0, 1) := bdX4_apart_0 (22, .aload_n 0, 1) (List.mem_of_getElem? (i := 12) rfl)
theorem dX4_apart_23 : decode cX4_apart 23 = .ok (.iload_n 1, 1) := bdX4_apart_0 (23, .iload_n 1, 1) (List.mem_of_getElem? (i := 13) rfl)
theorem dX4_apart_24 : decode cX4_apart 24 = .ok (.iload 4, 2) := bdX4_apart_0 (24, .iload 4, 2) (List.mem_of_getElem? (i := 14) rfl)
theorem dX4_apart_26 : decode cX4_apart 26 = .ok (.invokevirtual 105, 3) := bdX4_apart_0 (26, .invokevirtual 105, 3) (List.mem_of_getElem? (i := 15) rfl)
theorem dX4_apart_29 : decode cX4_apart 29 = .ok (.aload_n 2, 1) := bdX4_apart_0 (29, .aload_n 2, 1) (List.mem_of_getElem? (i := 16) rfl)
theorem dX4_apart_30 : decode cX4_apart 30 = .ok (.getfield 117, 3) := bdX4_apart_0 (30, .getfield 117, 3) (List.mem_of_getElem? (i := 17) rfl)
theorem dX4_apart_33 : decode cX4_apart 33 = .ok (.iload 4, 2) := bdX4_apart_0 (33, .iload 4, 2) (List.mem_of_getElem? (i := 18) rfl)
theorem dX4_apart_35 : decode cX4_apart 35 = .ok (.iaload, 1) := bdX4_apart_0 (35, .iaload, 1) (List.mem_of_getElem? (i := 19) rfl)
theorem dX4_apart_36 : decode cX4_apart 36 = .ok (.isub, 1) := bdX4_apart_0 (36, .isub, 1) (List.mem_of_getElem? (i := 20) rfl)
theorem dX4_apart_37 : decode cX4_apart 37 = .ok (.invokestatic 120, 3) := bdX4_apart_0 (37, .invokestatic 120, 3) (List.mem_of_getElem? (i := 21) rfl)
theorem dX4_apart_40 : decode cX4_apart 40 = .ok (.iadd, 1) := bdX4_apart_0 (40, .iadd, 1) (List.mem_of_getElem? (i := 22) rfl)
theorem dX4_apart_41 : decode cX4_apart 41 = .ok (.istore_n 3, 1) := bdX4_apart_0 (41, .istore_n 3, 1) (List.mem_of_getElem? (i := 23) rfl)
theorem dX4_apart_42 : decode cX4_apart 42 = .ok (.iinc 4 1, 3) := bdX4_apart_0 (42, .iinc 4 1, 3) (List.mem_of_getElem? (i := 24) rfl)
theorem dX4_apart_45 : decode cX4_apart 45 = .ok (.goto (-40), 3) := bdX4_apart_0 (45, .goto (-40), 3) (List.mem_of_getElem? (i := 25) rfl)
theorem dX4_apart_48 : decode cX4_apart 48 = .ok (.iload_n 3, 1) := bdX4_apart_0 (48, .iload_n 3, 1) (List.mem_of_getElem? (i := 26) rfl)
theorem dX4_apart_49 : decode cX4_apart 49 = .ok (.ireturn, 1) := bdX4_apart_0 (49, .ireturn, 1) (List.mem_of_getElem? (i := 27) rfl)
theorem kX4_112 : mthV RX4 112 3 yX3_isNumber prog_5_method_7_code 2 (Option.some Jvm.ClassFile.FieldType.boolean) 1 := ⟨⟨⟨tw_598, tw_65, tw_601⟩, rfl, by decide +kernel⟩, tw_599, tw_600, rfl⟩
theorem fX4_117 : fldOK RX4 117 3 2 (.array .int) true := ⟨_, _, _, tyX3, ⟨rfl, iX3, by decide, rfl, by decide⟩, tw_248, ⟨tyX3_ok, nmX3⟩, by decide +kernel, rfl, rfl⟩
def BX4_apart_42 (ln : Nat → Nat) (post : Int32 → HC → Prop) (K5 : HC → Nat → Int32 → Nat → Int32 → Int32 → Prop) (S : HC) (x0 : Nat) (x1 : Int32) (x2 : Nat) (x3 : Int32) (x4 : Int32) : Prop := lt_ (x4 + (1 : Int32)) fun z1 => K5 S x0 x1 x2 x3 z1
def LX4_apart_5 (ln : Nat → Nat) (post : Int32 → HC → Prop) : Nat → HC → Nat → Int32 → Nat → Int32 → Int32 → Prop
  | 0 => fun _ _ _ _ _ _ => False
  | n5 + 1 => fun S x0 x1 x2 x3 x4 => if (8 : Int32) ≤ x4 then (post x3 S) else (wpX3_isNumber ln S x2 x4 fun z2 S => if z2 = 0 then (BX4_apart_42 ln post (LX4_apart_5 ln post n5) S x0 x1 x2 x3 x4) else (wpX4_shown ln S x0 x1 x4 fun z3 S => dn_ (hR S x2 2) fun b4 => al_ (ln b4) x4 (hI S b4) fun z5 => lt_ (z3 - z5) fun z6 => lt_ (if 0 ≤ z6 then z6 else 0 - z6) fun z7 => lt_ (x3 + z7) fun z8 => BX4_apart_42 ln post (LX4_apart_5 ln post n5) S x0 x1 x2 z8 x4))
def wpX4_apart (ln : Nat → Nat) (S : HC) (a0 : Nat) (a1 : Int32) (a2 : Nat) (post : Int32 → HC → Prop) : Prop := ∃ n5, LX4_apart_5 ln post n5 S a0 a1 a2 (0 : Int32) (0 : Int32)
abbrev rmX4_apart : Room := { frames := 3, cells := 0, slots := 0, locals := 65 }
set_option maxHeartbeats 4000000 in
set_option maxRecDepth 100000 in
theorem ctX4_apart {l : Launch} {g : GX} {N : Nat} {ln : Nat → Nat} {S : HC} {a0 : Nat} {a1 : Int32} {a2 : Nat} {post : Int32 → HC → Prop} (hr_a0 : a0 < N) (hk_a0 : kd a0 = 4) (hr_a2 : a2 < N) (hk_a2 : kd a2 = 3) (h : wpX4_apart ln S a0 a1 a2 post) : Met l yX4_apart (Cond.code yX4_apart prog_6_method_14_code 5 (Option.some Jvm.ClassFile.FieldType.int) :: gtbl) rmX4_apart (va_Pc [.ref (gz g + a0), .int a1, .ref (gz g + a2)] (AtP g N ln S)) (QI g N ln post) 0 0 (gF g) := by
  refine m_of (by decide) (Nat.le_of_ble_eq_true rfl) ?_
  intro p e s m below meth c ls F hr I hl
  have hl : lv_has ls 5 [(0, .ref (gz g + a0)), (1, .int a1), (2, .ref (gz g + a2))] := hl
  unfold wpX4_apart at h
  have hl_5 : ∀ n5 : Nat, ∀ (S : HC) (H : Heap) (locs : List Loc) (ls : Array Slot) (x0 : Nat) (x1 : Int32) (x2 : Nat) (x3 : Int32) (x4 : Int32), x0 < N → kd x0 = 4 → x2 < N → kd x2 = 3 → LX4_apart_5 ln post n5 S x0 x1 x2 x3 x4 → Inv g N ln S s H locs → lv_has ls 5 [(0, .ref (gz g + x0)), (1, .int x1), (2, .ref (gz g + x2)), (3, .int x3), (4, .int x4)] → W p l e rmX4_apart s m ([.ref (gz g + a0), .int a1, .ref (gz g + a2)] : List Value).toArray below meth c H locs 0 0 (MQ below (QI g N ln post) ([.ref (gz g + a0), .int a1, .ref (gz g + a2)] : List Value).toArray s 0 0 (gF g)) (F0 m 5 ls []) := by
    intro n5
    induction n5 with
    | zero =>
      intro S H locs ls x0 x1 x2 x3 x4 hr_x0 hk_x0 hr_x2 hk_x2 h I hl
      exact h.elim
    | succ n5 ih =>
      have hk5 := ih
      have hj_42 : ∀ (S : HC) (H : Heap) (locs : List Loc) (ls : Array Slot) (x0 : Nat) (x1 : Int32) (x2 : Nat) (x3 : Int32) (x4 : Int32), x0 < N → kd x0 = 4 → x2 < N → kd x2 = 3 → BX4_apart_42 ln post (LX4_apart_5 ln post n5) S x0 x1 x2 x3 x4 → Inv g N ln S s H locs → lv_has ls 5 [(0, .ref (gz g + x0)), (1, .int x1), (2, .ref (gz g + x2)), (3, .int x3), (4, .int x4)] → W p l e rmX4_apart s m ([.ref (gz g + a0), .int a1, .ref (gz g + a2)] : List Value).toArray below meth c H locs 0 0 (MQ below (QI g N ln post) ([.ref (gz g + a0), .int a1, .ref (gz g + a2)] : List Value).toArray s 0 0 (gF g)) (F0 m 42 ls []) := by
        intro S H locs ls x0 x1 x2 x3 x4 hr_x0 hk_x0 hr_x2 hk_x2 h I hl
        unfold BX4_apart_42 at h
        obtain ⟨z1, e_z1, h⟩ := lt_x h
        refine lv_iinc (v := z1) (lv' := [(4, .int z1), (0, .ref (gz g + x0)), (1, .int x1), (2, .ref (gz g + x2)), (3, .int x3)]) F.1 F.2.1 dX4_apart_42 hl (k := 4) rfl (by rw [e_z1]; rfl) (by decide) rfl (fun ls hl => ?_)
        refine lv_goto (tgt := 5) F.1 F.2.1 dX4_apart_45 (by decide) ?_
        exact hk5 S _ _ _ x0 x1 x2 x3 z1 hr_x0 hk_x0 hr_x2 hk_x2 h I (lv_sub hl [1, 2, 3, 4, 0] rfl)
      intro S H locs ls x0 x1 x2 x3 x4 hr_x0 hk_x0 hr_x2 hk_x2 h I hl
      rw [LX4_apart_5] at h
      refine lv_iload F.1 F.2.1 dX4_apart_5 (lv_at hl 4 rfl) ?_
      refine lv_bipush (v := 8) F.1 F.2.1 dX4_apart_7 (by decide) ?_
      refine r_icmp_ge (tgt := 48) F dX4_apart_9 (by decide) h (fun h => ?_) (fun h => ?_)
      · refine lv_iload_n F.1 F.2.1 dX4_apart_48 rfl (lv_at hl 3 rfl) ?_
        exact r_ireturn F I ⟨hr.1, hr.2.1, trivial⟩ h dX4_apart_49
      · refine lv_aload_n F.1 F.2.1 dX4_apart_12 rfl (lv_at hl 2 rfl) ?_
        refine lv_iload F.1 F.2.1 dX4_apart_13 (lv_at hl 4 rfl) ?_
        refine g_I I (run_V (As := [.int x4]) (rest := []) F I hr_x2 hk_x2 (by decide) kX4_112 (ctX3_isNumber hr_x2 hk_x2 h) ⟨rfl, rfl⟩ ⟨Nat.le_of_ble_eq_true rfl, Nat.le_of_ble_eq_true rfl⟩ rfl hl.1 rfl (Nat.le_of_ble_eq_true rfl) ⟨Nat.le_of_ble_eq_true rfl, Nat.le_of_ble_eq_true rfl⟩ dX4_apart_15) (fun z2 S H locs I h => ?_)
        refine r_if_eq (tgt := 42) F dX4_apart_18 (by decide) h (fun h => ?_) (fun h => ?_)
        · exact hj_42 S _ _ _ x0 x1 x2 x3 x4 hr_x0 hk_x0 hr_x2 hk_x2 h I (lv_sub hl [0, 1, 2, 3, 4] rfl)
        · refine lv_iload_n F.1 F.2.1 dX4_apart_21 rfl (lv_at hl 3 rfl) ?_
          refine lv_aload_n F.1 F.2.1 dX4_apart_22 rfl (lv_at hl 0 rfl) ?_
          refine lv_iload_n F.1 F.2.1 dX4_apart_23 rfl (lv_at hl 1 rfl) ?_
          refine lv_iload F.1 F.2.1 dX4_apart_24 (lv_at hl 4 rfl) ?_
          refine g_I I (run_V (As := [.int x1, .int x4]) (rest := [.int x3]) F I hr_x0 hk_x0 (by decide) kX4_105 (ctX4_shown hr_x0 hk_x0 h) ⟨rfl, rfl⟩ ⟨Nat.le_of_ble_eq_true rfl, Nat.le_of_ble_eq_true rfl⟩ rfl hl.1 rfl (Nat.le_of_ble_eq_true rfl) ⟨Nat.le_of_ble_eq_true rfl, Nat.le_of_ble_eq_true rfl⟩ dX4_apart_26) (fun z3 S H locs I h => ?_)
          refine lv_aload_n F.1 F.2.1 dX4_apart_29 rfl (lv_at hl 2 rfl) ?_
          refine r_getN F I hr_x2 hk_x2 fX4_117 (f := 9) rfl (by decide) dX4_apart_30 h (fun b4 hr_b4 hk_b4 h => ?_)
          refine lv_iload F.1 F.2.1 dX4_apart_33 (lv_at hl 4 rfl) ?_
          refine r_ald F I hr_b4 hk_b4 dX4_apart_35 h (fun z5 h => ?_)
          refine r_isub F dX4_apart_36 h (fun z6 h => ?_)
          refine r_mabs F hl.1 tw_607 (Nat.le_of_ble_eq_true rfl) (Nat.le_of_ble_eq_true rfl) (Nat.zero_le _) (Nat.zero_le _) dX4_apart_37 h (fun z7 h => ?_)
          refine r_iadd F dX4_apart_40 h (fun z8 h => ?_)
          refine lv_istore_n (lv' := [(3, .int z8), (0, .ref (gz g + x0)), (1, .int x1), (2, .ref (gz g + x2)), (4, .int x4)]) F.1 F.2.1 dX4_apart_41 rfl hl (by decide) rfl (fun ls hl => ?_)
          exact hj_42 S _ _ _ x0 x1 x2 z8 x4 hr_x0 hk_x0 hr_x2 hk_x2 h I (lv_sub hl [1, 2, 3, 0, 4] rfl)
  refine lv_iconst (v := 0) F.1 F.2.1 dX4_apart_0 (by decide) ?_
  refine lv_istore_n (lv' := [(3, .int (0 : Int32)), (0, .ref (gz g + a0)), (1, .int a1), (2, .ref (gz g + a2))]) F.1 F.2.1 dX4_apart_1 rfl hl (by decide) rfl (fun ls hl => ?_)
  refine lv_iconst (v := 0) F.1 F.2.1 dX4_apart_2 (by decide) ?_
  refine lv_istore (lv' := [(4, .int (0 : Int32)), (3, .int (0 : Int32)), (0, .ref (gz g + a0)), (1, .int a1), (2, .ref (gz g + a2))]) F.1 F.2.1 dX4_apart_3 hl (by decide) rfl (fun ls hl => ?_)
  obtain ⟨n5, h⟩ := h
  exact hl_5 n5 S _ _ _ a0 a1 a2 (0 : Int32) (0 : Int32) hr_a0 hk_a0 hr_a2 hk_a2 h I (lv_sub hl [2, 3, 4, 1, 0] rfl)
