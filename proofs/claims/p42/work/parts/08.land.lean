theorem bdX0_has_0 : ∀ q ∈ ([(0, .iload_n 1, 1), (1, .ifCond .lt 21, 3), (4, .iload_n 1, 1), (5, .aload_n 0, 1), (6, .getfield 30, 3), (9, .if_icmp .ge 13, 3), (12, .iload_n 1, 1), (13, .bipush 14, 2), (15, .if_icmp .ge 7, 3), (18, .iconst 1, 1), (19, .goto 4, 3), (22, .iconst 0, 1), (23, .ireturn, 1)] : List (Nat × Jvm.ClassFile.Instr × Nat)), decode cX0_has q.1 = .ok q.2 := chk_ok _ 0 _ rfl (by decide +kernel)
theorem dX0_has_0 : decode cX0_has 0 = .ok (.iload_n 1, 1) := bdX0_has_0 (0, .iload_n 1, 1) (List.mem_of_getElem? (i := 0) rfl)
theorem dX0_has_1 : decode cX0_has 1 = .ok (.ifCond .lt 21, 3) := bdX0_has_0 (1, .ifCond .lt 21, 3) (List.mem_of_getElem? (i := 1) rfl)
theorem dX0_has_4 : decode cX0_has 4 = .ok (.iload_n 1, 1) := bdX0_has_0 (4, .iload_n 1, 1) (List.mem_of_getElem? (i := 2) rfl)
theorem dX0_has_5 : decode cX0_has 5 = .ok (.aload_n 0, 1) := bdX0_has_0 (5, .aload_n 0, 1) (List.mem_of_getElem? (i := 3) rfl)
theorem dX0_has_6 : decode cX0_has 6 = .ok (.getfield 30, 3) := bdX0_has_0 (6, .getfield 30, 3) (List.mem_of_getElem? (i := 4) rfl)
theorem dX0_has_9 : decode cX0_has 9 = .ok (.if_icmp .ge 13, 3) := bdX0_has_0 (9, .if_icmp .ge 13, 3) (List.mem_of_getElem? (i := 5) rfl)
theorem dX0_has_12 : decode cX0_has 12 = .ok (.iload_n 1, 1) := bdX0_has_0 (12, .iload_n 1, 1) (List.mem_of_getElem? (i := 6) rfl)
theorem dX0_has_13 : decode cX0_has 13 = .ok (.bipush 14, 2) := bdX0_has_0 (13, .bipush 14, 2) (List.mem_of_getElem? (i := 7) rfl)
theorem dX0_has_15 : decode cX0_has 15 = .ok (.if_icmp .ge 7, 3) := bdX0_has_0 (15, .if_icmp .ge 7, 3) (List.mem_of_getElem? (i := 8) rfl)
theorem dX0_has_18 : decode cX0_has 18 = .ok (.iconst 1, 1) := bdX0_has_0 (18, .iconst 1, 1) (List.mem_of_getElem? (i := 9) rfl)
theorem dX0_has_19 : decode cX0_has 19 = .ok (.goto 4, 3) := bdX0_has_0 (19, .goto 4, 3) (List.mem_of_getElem? (i := 10) rfl)
theorem dX0_has_22 : decode cX0_has 22 = .ok (.iconst 0, 1) := bdX0_has_0 (22, .iconst 0, 1) (List.mem_of_getElem? (i := 11) rfl)
theorem dX0_has_23 : decode cX0_has 23 = .ok (.ireturn, 1) := bdX0_has_0 (23, .ireturn, 1) (List.mem_of_getElem? (i := 12) rfl)
theorem fX0_30 : fldOK RX0 30 0 6 .int false := ⟨_, _, _, tyX0, ⟨rfl, iX0, by decide, rfl, by decide⟩, tw_110, ⟨tyX0_ok, nmX0⟩, by decide +kernel, rfl, rfl⟩
def BX0_has_22 (ln : Nat → Nat) (post : Int32 → HC → Prop) (S : HC)  : Prop := rb_ .boolean (0 : Int32) (post (0 : Int32) S)
def wpX0_has (ln : Nat → Nat) (S : HC) (a0 : Nat) (a1 : Int32) (post : Int32 → HC → Prop) : Prop := if a1 < 0 then (BX0_has_22 ln post S) else (lt_ (hI S a0 6) fun z1 => if z1 ≤ a1 then (BX0_has_22 ln post S) else (if (14 : Int32) ≤ a1 then (BX0_has_22 ln post S) else (rb_ .boolean (1 : Int32) (post (1 : Int32) S))))
abbrev rmX0_has : Room := { frames := 0, cells := 0, slots := 0, locals := 0 }
set_option maxHeartbeats 4000000 in
set_option maxRecDepth 100000 in
theorem ctX0_has {l : Launch} {g : GX} {N : Nat} {ln : Nat → Nat} {S : HC} {a0 : Nat} {a1 : Int32} {post : Int32 → HC → Prop} (hr_a0 : a0 < N) (hk_a0 : kd a0 = 0) (h : wpX0_has ln S a0 a1 post) : Met l yX0_has (Cond.code yX0_has prog_2_method_3_code 2 (Option.some Jvm.ClassFile.FieldType.boolean) :: gtbl) rmX0_has (va_Pc [.ref (gz g + a0), .int a1] (AtP g N ln S)) (QI g N ln post) 0 0 (gF g) := by
  refine m_of (by decide) (Nat.le_of_ble_eq_true rfl) ?_
  intro p e s m below meth c ls F hr I hl
  have hl : lv_has ls 2 [(0, .ref (gz g + a0)), (1, .int a1)] := hl
  unfold wpX0_has at h
  have hj_22 : ∀ (S : HC) (H : Heap) (locs : List Loc) (ls : Array Slot), BX0_has_22 ln post S  → Inv g N ln S s H locs → lv_has ls 2 [] → W p l e rmX0_has s m ([.ref (gz g + a0), .int a1] : List Value).toArray below meth c H locs 0 0 (MQ below (QI g N ln post) ([.ref (gz g + a0), .int a1] : List Value).toArray s 0 0 (gF g)) (F0 m 22 ls []) := by
    intro S H locs ls h I hl
    unfold BX0_has_22 at h
    refine lv_iconst (v := 0) F.1 F.2.1 dX0_has_22 (by decide) ?_
    exact r_zreturn F I ⟨hr.1, hr.2.1, trivial⟩ h dX0_has_23
  refine lv_iload_n F.1 F.2.1 dX0_has_0 rfl (lv_at hl 1 rfl) ?_
  refine r_if_lt (tgt := 22) F dX0_has_1 (by decide) h (fun h => ?_) (fun h => ?_)
  · exact hj_22 S _ _ _   h I (lv_sub hl [] rfl)
  · refine lv_iload_n F.1 F.2.1 dX0_has_4 rfl (lv_at hl 1 rfl) ?_
    refine lv_aload_n F.1 F.2.1 dX0_has_5 rfl (lv_at hl 0 rfl) ?_
    refine r_getI F I hr_a0 hk_a0 fX0_30 rfl dX0_has_6 h (fun z1 h => ?_)
    refine r_icmp_ge (tgt := 22) F dX0_has_9 (by decide) h (fun h => ?_) (fun h => ?_)
    · exact hj_22 S _ _ _   h I (lv_sub hl [] rfl)
    · refine lv_iload_n F.1 F.2.1 dX0_has_12 rfl (lv_at hl 1 rfl) ?_
      refine lv_bipush (v := 14) F.1 F.2.1 dX0_has_13 (by decide) ?_
      refine r_icmp_ge (tgt := 22) F dX0_has_15 (by decide) h (fun h => ?_) (fun h => ?_)
      · exact hj_22 S _ _ _   h I (lv_sub hl [] rfl)
      · refine lv_iconst (v := 1) F.1 F.2.1 dX0_has_18 (by decide) ?_
        refine lv_goto (tgt := 23) F.1 F.2.1 dX0_has_19 (by decide) ?_
        exact r_zreturn F I ⟨hr.1, hr.2.1, trivial⟩ h dX0_has_23
theorem bdX0_hasRoom_0 : ∀ q ∈ ([(0, .aload_n 0, 1), (1, .getfield 30, 3), (4, .ifCond .lt 16, 3), (7, .aload_n 0, 1), (8, .getfield 30, 3), (11, .bipush 14, 2), (13, .if_icmp .ge 7, 3), (16, .iconst 1, 1), (17, .goto 4, 3), (20, .iconst 0, 1), (21, .ireturn, 1)] : List (Nat × Jvm.ClassFile.Instr × Nat)), decode cX0_hasRoom q.1 = .ok q.2 := chk_ok _ 0 _ rfl (by decide +kernel)
theorem dX0_hasRoom_0 : decode cX0_hasRoom 0 = .ok (.aload_n 0, 1) := bdX0_hasRoom_0 (0, .aload_n 0, 1) (List.mem_of_getElem? (i := 0) rfl)
theorem dX0_hasRoom_1 : decode cX0_hasRoom 1 = .ok (.getfield 30, 3) := bdX0_hasRoom_0 (1, .getfield 30, 3) (List.mem_of_getElem? (i := 1) rfl)
theorem dX0_hasRoom_4 : decode cX0_hasRoom 4 = .ok (.ifCond .lt 16, 3) := bdX0_hasRoom_0 (4, .ifCond .lt 16, 3) (List.mem_of_getElem? (i := 2) rfl)
theorem dX0_hasRoom_7 : decode cX0_hasRoom 7 = .ok (.aload_n 0, 1) := bdX0_hasRoom_0 (7, .aload_n 0, 1) (List.mem_of_getElem? (i := 3) rfl)
theorem dX0_hasRoom_8 : decode cX0_hasRoom 8 = .ok (.getfield 30, 3) := bdX0_hasRoom_0 (8, .getfield 30, 3) (List.mem_of_getElem? (i := 4) rfl)
theorem dX0_hasRoom_11 : decode cX0_hasRoom 11 = .ok (.bipush 14, 2) := bdX0_hasRoom_0 (11, .bipush 14, 2) (List.mem_of_getElem? (i := 5) rfl)
theorem dX0_hasRoom_13 : decode cX0_hasRoom 13 = .ok (.if_icmp .ge 7, 3) := bdX0_hasRoom_0 (13, .if_icmp .ge 7, 3) (List.mem_of_getElem? (i := 6) rfl)
theorem dX0_hasRoom_16 : decode cX0_hasRoom 16 = .ok (.iconst 1, 1) := bdX0_hasRoom_0 (16, .iconst 1, 1) (List.mem_of_getElem? (i := 7) rfl)
theorem dX0_hasRoom_17 : decode cX0_hasRoom 17 = .ok (.goto 4, 3) := bdX0_hasRoom_0 (17, .goto 4, 3) (List.mem_of_getElem? (i := 8) rfl)
theorem dX0_hasRoom_20 : decode cX0_hasRoom 20 = .ok (.iconst 0, 1) := bdX0_hasRoom_0 (20, .iconst 0, 1) (List.mem_of_getElem? (i := 9) rfl)
theorem dX0_hasRoom_21 : decode cX0_hasRoom 21 = .ok (.ireturn, 1) := bdX0_hasRoom_0 (21, .ireturn, 1) (List.mem_of_getElem? (i := 10) rfl)
def BX0_hasRoom_20 (ln : Nat → Nat) (post : Int32 → HC → Prop) (S : HC)  : Prop := rb_ .boolean (0 : Int32) (post (0 : Int32) S)
def wpX0_hasRoom (ln : Nat → Nat) (S : HC) (a0 : Nat) (post : Int32 → HC → Prop) : Prop := lt_ (hI S a0 6) fun z1 => if z1 < 0 then (BX0_hasRoom_20 ln post S) else (lt_ (hI S a0 6) fun z2 => if (14 : Int32) ≤ z2 then (BX0_hasRoom_20 ln post S) else (rb_ .boolean (1 : Int32) (post (1 : Int32) S)))
abbrev rmX0_hasRoom : Room := { frames := 0, cells := 0, slots := 0, locals := 0 }
set_option maxHeartbeats 4000000 in
set_option maxRecDepth 100000 in
theorem ctX0_hasRoom {l : Launch} {g : GX} {N : Nat} {ln : Nat → Nat} {S : HC} {a0 : Nat} {post : Int32 → HC → Prop} (hr_a0 : a0 < N) (hk_a0 : kd a0 = 0) (h : wpX0_hasRoom ln S a0 post) : Met l yX0_hasRoom (Cond.code yX0_hasRoom prog_2_method_4_code 1 (Option.some Jvm.ClassFile.FieldType.boolean) :: gtbl) rmX0_hasRoom (va_Pc [.ref (gz g + a0)] (AtP g N ln S)) (QI g N ln post) 0 0 (gF g) := by
  refine m_of (by decide) (Nat.le_of_ble_eq_true rfl) ?_
  intro p e s m below meth c ls F hr I hl
  have hl : lv_has ls 1 [(0, .ref (gz g + a0))] := hl
  unfold wpX0_hasRoom at h
  have hj_20 : ∀ (S : HC) (H : Heap) (locs : List Loc) (ls : Array Slot), BX0_hasRoom_20 ln post S  → Inv g N ln S s H locs → lv_has ls 1 [] → W p l e rmX0_hasRoom s m ([.ref (gz g + a0)] : List Value).toArray below meth c H locs 0 0 (MQ below (QI g N ln post) ([.ref (gz g + a0)] : List Value).toArray s 0 0 (gF g)) (F0 m 20 ls []) := by
    intro S H locs ls h I hl
    unfold BX0_hasRoom_20 at h
    refine lv_iconst (v := 0) F.1 F.2.1 dX0_hasRoom_20 (by decide) ?_
    exact r_zreturn F I ⟨hr.1, hr.2.1, trivial⟩ h dX0_hasRoom_21
  refine lv_aload_n F.1 F.2.1 dX0_hasRoom_0 rfl (lv_at hl 0 rfl) ?_
  refine r_getI F I hr_a0 hk_a0 fX0_30 rfl dX0_hasRoom_1 h (fun z1 h => ?_)
  refine r_if_lt (tgt := 20) F dX0_hasRoom_4 (by decide) h (fun h => ?_) (fun h => ?_)
  · exact hj_20 S _ _ _   h I (lv_sub hl [] rfl)
  · refine lv_aload_n F.1 F.2.1 dX0_hasRoom_7 rfl (lv_at hl 0 rfl) ?_
    refine r_getI F I hr_a0 hk_a0 fX0_30 rfl dX0_hasRoom_8 h (fun z2 h => ?_)
    refine lv_bipush (v := 14) F.1 F.2.1 dX0_hasRoom_11 (by decide) ?_
    refine r_icmp_ge (tgt := 20) F dX0_hasRoom_13 (by decide) h (fun h => ?_) (fun h => ?_)
    · exact hj_20 S _ _ _   h I (lv_sub hl [] rfl)
    · refine lv_iconst (v := 1) F.1 F.2.1 dX0_hasRoom_16 (by decide) ?_
      refine lv_goto (tgt := 21) F.1 F.2.1 dX0_hasRoom_17 (by decide) ?_
      exact r_zreturn F I ⟨hr.1, hr.2.1, trivial⟩ h dX0_hasRoom_21
theorem bdX0_canBeParent_0 : ∀ q ∈ ([(0, .iload_n 1, 1), (1, .iconst (-1), 1), (2, .if_icmp .eq 21, 3), (5, .aload_n 0, 1), (6, .iload_n 1, 1), (7, .invokevirtual 52, 3), (10, .ifCond .eq 17, 3), (13, .aload_n 0, 1), (14, .getfield 21, 3), (17, .iload_n 1, 1), (18, .iaload, 1), (19, .iload_n 2, 1), (20, .if_icmp .ne 7, 3), (23, .iconst 1, 1), (24, .goto 4, 3), (27, .iconst 0, 1), (28, .ireturn, 1)] : List (Nat × Jvm.ClassFile.Instr × Nat)), decode cX0_canBeParent q.1 = .ok q.2 := chk_ok _ 0 _ rfl (by decide +kernel)
theorem dX0_canBeParent_0 : decode cX0_canBeParent 0 = .ok (.iload_n 1, 1) := bdX0_canBeParent_0 (0, .iload_n 1, 1) (List.mem_of_getElem? (i := 0) rfl)
theorem dX0_canBeParent_1 : decode cX0_canBeParent 1 = .ok (.iconst (-1), 1) := bdX0_canBeParent_0 (1, .iconst (-1), 1) (List.mem_of_getElem? (i := 1) rfl)
theorem dX0_canBeParent_2 : decode cX0_canBeParent 2 = .ok (.if_icmp .eq 21, 3) := bdX0_canBeParent_0 (2, .if_icmp .eq 21, 3) (List.mem_of_getElem? (i := 2) rfl)
theorem dX0_canBeParent_5 : decode cX0_canBeParent 5 = .ok (.aload_n 0, 1) := bdX0_canBeParent_0 (5, .aload_n 0, 1) (List.mem_of_getElem? (i := 3) rfl)
theorem dX0_canBeParent_6 : decode cX0_canBeParent 6 = .ok (.iload_n 1, 1) := bdX0_canBeParent_0 (6, .iload_n 1, 1) (List.mem_of_getElem? (i := 4) rfl)
theorem dX0_canBeParent_7 : decode cX0_canBeParent 7 = .ok (.invokevirtual 52, 3) := bdX0_canBeParent_0 (7, .invokevirtual 52, 3) (List.mem_of_getElem? (i := 5) rfl)
theorem dX0_canBeParent_10 : decode cX0_canBeParent 10 = .ok (.ifCond .eq 17, 3) := bdX0_canBeParent_0 (10, .ifCond .eq 17, 3) (List.mem_of_getElem? (i := 6) rfl)
theorem dX0_canBeParent_13 : decode cX0_canBeParent 13 = .ok (.aload_n 0, 1) := bdX0_canBeParent_0 (13, .aload_n 0, 1) (List.mem_of_getElem? (i := 7) rfl)
theorem dX0_canBeParent_14 : decode cX0_canBeParent 14 = .ok (.getfield 21, 3) := bdX0_canBeParent_0 (14, .getfield 21, 3) (List.mem_of_getElem? (i := 8) rfl)
theorem dX0_canBeParent_17 : decode cX0_canBeParent 17 = .ok (.iload_n 1, 1) := bdX0_canBeParent_0 (17, .iload_n 1, 1) (List.mem_of_getElem? (i := 9) rfl)
theorem dX0_canBeParent_18 : decode cX0_canBeParent 18 = .ok (.iaload, 1) := bdX0_canBeParent_0 (18, .iaload, 1) (List.mem_of_getElem? (i := 10) rfl)
theorem dX0_canBeParent_19 : decode cX0_canBeParent 19 = .ok (.iload_n 2, 1) := bdX0_canBeParent_0 (19, .iload_n 2, 1) (List.mem_of_getElem? (i := 11) rfl)
theorem dX0_canBeParent_20 : decode cX0_canBeParent 20 = .ok (.if_icmp .ne 7, 3) := bdX0_canBeParent_0 (20, .if_icmp .ne 7, 3) (List.mem_of_getElem? (i := 12) rfl)
theorem dX0_canBeParent_23 : decode cX0_canBeParent 23 = .ok (.iconst 1, 1) := bdX0_canBeParent_0 (23, .iconst 1, 1) (List.mem_of_getElem? (i := 13) rfl)
theorem dX0_canBeParent_24 : decode cX0_canBeParent 24 = .ok (.goto 4, 3) := bdX0_canBeParent_0 (24, .goto 4, 3) (List.mem_of_getElem? (i := 14) rfl)
theorem dX0_canBeParent_27 : decode cX0_canBeParent 27 = .ok (.iconst 0, 1) := bdX0_canBeParent_0 (27, .iconst 0, 1) (List.mem_of_getElem? (i := 15) rfl)
theorem dX0_canBeParent_28 : decode cX0_canBeParent 28 = .ok (.ireturn, 1) := bdX0_canBeParent_0 (28, .ireturn, 1) (List.mem_of_getElem? (i := 16) rfl)
theorem kX0_52 : mthV RX0 52 0 yX0_has prog_2_method_3_code 2 (Option.some Jvm.ClassFile.FieldType.boolean) 1 := ⟨⟨⟨tw_330, tw_61, tw_333⟩, rfl, by decide +kernel⟩, tw_331, tw_332, rfl⟩
theorem fX0_21 : fldOK RX0 21 0 3 (.array .int) true := ⟨_, _, _, tyX0, ⟨rfl, iX0, by decide, rfl, by decide⟩, tw_102, ⟨tyX0_ok, nmX0⟩, by decide +kernel, rfl, rfl⟩
def BX0_canBeParent_27 (ln : Nat → Nat) (post : Int32 → HC → Prop) (S : HC)  : Prop := rb_ .boolean (0 : Int32) (post (0 : Int32) S)
def BX0_canBeParent_23 (ln : Nat → Nat) (post : Int32 → HC → Prop) (S : HC)  : Prop := rb_ .boolean (1 : Int32) (post (1 : Int32) S)
def wpX0_canBeParent (ln : Nat → Nat) (S : HC) (a0 : Nat) (a1 : Int32) (a2 : Int32) (post : Int32 → HC → Prop) : Prop := if a1 = (-1 : Int32) then (BX0_canBeParent_23 ln post S) else (wpX0_has ln S a0 a1 fun z1 S => if z1 = 0 then (BX0_canBeParent_27 ln post S) else (dn_ (hR S a0 3) fun b2 => al_ (ln b2) a1 (hI S b2) fun z3 => if z3 = a2 then (BX0_canBeParent_23 ln post S) else (BX0_canBeParent_27 ln post S)))
abbrev rmX0_canBeParent : Room := { frames := 1, cells := 0, slots := 0, locals := 21 }
set_option maxHeartbeats 4000000 in
set_option maxRecDepth 100000 in
theorem ctX0_canBeParent {l : Launch} {g : GX} {N : Nat} {ln : Nat → Nat} {S : HC} {a0 : Nat} {a1 : Int32} {a2 : Int32} {post : Int32 → HC → Prop} (hr_a0 : a0 < N) (hk_a0 : kd a0 = 0) (h : wpX0_canBeParent ln S a0 a1 a2 post) : Met l yX0_canBeParent (Cond.code yX0_canBeParent prog_2_method_5_code 3 (Option.some Jvm.ClassFile.FieldType.boolean) :: gtbl) rmX0_canBeParent (va_Pc [.ref (gz g + a0), .int a1, .int a2] (AtP g N ln S)) (QI g N ln post) 0 0 (gF g) := by
  refine m_of (by decide) (Nat.le_of_ble_eq_true rfl) ?_
  intro p e s m below meth c ls F hr I hl
  have hl : lv_has ls 3 [(0, .ref (gz g + a0)), (1, .int a1), (2, .int a2)] := hl
  unfold wpX0_canBeParent at h
  have hj_27 : ∀ (S : HC) (H : Heap) (locs : List Loc) (ls : Array Slot), BX0_canBeParent_27 ln post S  → Inv g N ln S s H locs → lv_has ls 3 [] → W p l e rmX0_canBeParent s m ([.ref (gz g + a0), .int a1, .int a2] : List Value).toArray below meth c H locs 0 0 (MQ below (QI g N ln post) ([.ref (gz g + a0), .int a1, .int a2] : List Value).toArray s 0 0 (gF g)) (F0 m 27 ls []) := by
    intro S H locs ls h I hl
    unfold BX0_canBeParent_27 at h
    refine lv_iconst (v := 0) F.1 F.2.1 dX0_canBeParent_27 (by decide) ?_
    exact r_zreturn F I ⟨hr.1, hr.2.1, trivial⟩ h dX0_canBeParent_28
  have hj_23 : ∀ (S : HC) (H : Heap) (locs : List Loc) (ls : Array Slot), BX0_canBeParent_23 ln post S  → Inv g N ln S s H locs → lv_has ls 3 [] → W p l e rmX0_canBeParent s m ([.ref (gz g + a0), .int a1, .int a2] : List Value).toArray below meth c H locs 0 0 (MQ below (QI g N ln post) ([.ref (gz g + a0), .int a1, .int a2] : List Value).toArray s 0 0 (gF g)) (F0 m 23 ls []) := by
    intro S H locs ls h I hl
    unfold BX0_canBeParent_23 at h
    refine lv_iconst (v := 1) F.1 F.2.1 dX0_canBeParent_23 (by decide) ?_
    refine lv_goto (tgt := 28) F.1 F.2.1 dX0_canBeParent_24 (by decide) ?_
    exact r_zreturn F I ⟨hr.1, hr.2.1, trivial⟩ h dX0_canBeParent_28
  refine lv_iload_n F.1 F.2.1 dX0_canBeParent_0 rfl (lv_at hl 1 rfl) ?_
  refine lv_iconst (v := -1) F.1 F.2.1 dX0_canBeParent_1 (by decide) ?_
  refine r_icmp_eq (tgt := 23) F dX0_canBeParent_2 (by decide) h (fun h => ?_) (fun h => ?_)
  · exact hj_23 S _ _ _   h I (lv_sub hl [] rfl)
  · refine lv_aload_n F.1 F.2.1 dX0_canBeParent_5 rfl (lv_at hl 0 rfl) ?_
    refine lv_iload_n F.1 F.2.1 dX0_canBeParent_6 rfl (lv_at hl 1 rfl) ?_
    refine g_I I (run_V (As := [.int a1]) (rest := []) F I hr_a0 hk_a0 (by decide) kX0_52 (ctX0_has hr_a0 hk_a0 h) ⟨rfl, rfl⟩ ⟨Nat.le_of_ble_eq_true rfl, Nat.le_of_ble_eq_true rfl⟩ rfl hl.1 rfl (Nat.le_of_ble_eq_true rfl) ⟨Nat.le_of_ble_eq_true rfl, Nat.le_of_ble_eq_true rfl⟩ dX0_canBeParent_7) (fun z1 S H locs I h => ?_)
    refine r_if_eq (tgt := 27) F dX0_canBeParent_10 (by decide) h (fun h => ?_) (fun h => ?_)
    · exact hj_27 S _ _ _   h I (lv_sub hl [] rfl)
    · refine lv_aload_n F.1 F.2.1 dX0_canBeParent_13 rfl (lv_at hl 0 rfl) ?_
      refine r_getN F I hr_a0 hk_a0 fX0_21 (f := 9) rfl (by decide) dX0_canBeParent_14 h (fun b2 hr_b2 hk_b2 h => ?_)
      refine lv_iload_n F.1 F.2.1 dX0_canBeParent_17 rfl (lv_at hl 1 rfl) ?_
      refine r_ald F I hr_b2 hk_b2 dX0_canBeParent_18 h (fun z3 h => ?_)
      refine lv_iload_n F.1 F.2.1 dX0_canBeParent_19 rfl (lv_at hl 2 rfl) ?_
      refine r_icmp_ne (tgt := 27) F dX0_canBeParent_20 (by decide) h (fun h => ?_) (fun h => ?_)
      · exact hj_27 S _ _ _   h I (lv_sub hl [] rfl)
      · exact hj_23 S _ _ _   h I (lv_sub hl [] rfl)
theorem bdX0_add_0 : ∀ q ∈ ([(0, .aload_n 0, 1), (1, .invokevirtual 56, 3), (4, .ifCond .ne 6, 3), (7, .ldc 60, 2), (9, .ireturn, 1), (10, .aload_n 0, 1), (11, .getfield 30, 3), (14, .istore 6, 2), (16, .aload_n 0, 1), (17, .getfield 9, 3), (20, .iload 6, 2), (22, .iload_n 1, 1), (23, .iastore, 1), (24, .aload_n 0, 1), (25, .getfield 15, 3), (28, .iload 6, 2), (30, .iload_n 2, 1), (31, .iastore, 1), (32, .aload_n 0, 1), (33, .getfield 18, 3), (36, .iload 6, 2), (38, .iload_n 3, 1), (39, .iastore, 1), (40, .aload_n 0, 1), (41, .getfield 21, 3), (44, .iload 6, 2), (46, .iload 4, 2), (48, .iastore, 1), (49, .aload_n 0, 1), (50, .getfield 24, 3), (53, .iload 6, 2), (55, .iload 5, 2), (57, .iastore, 1), (58, .aload_n 0, 1), (59, .getfield 27, 3), (62, .iload 6, 2), (64, .iconst 0, 1), (65, .iastore, 1), (66, .aload_n 0, 1), (67, .iload 6, 2)] : List (Nat × Jvm.ClassFile.Instr × Nat)), decode cX0_add q.1 = .ok q.2 := chk_ok _ 0 _ rfl (by decide +kernel)
theorem dX0_add_0 : decode cX0_add 0 = .ok (.aload_n 0, 1) := bdX0_add_0 (0, .aload_n 0, 1) (List.mem_of_getElem? (i := 0) rfl)
theorem dX0_add_1 : decode cX0_add 1 = .ok (.invokevirtual 56, 3) := bdX0_add_0 (1, .invokevirtual 56, 3) (List.mem_of_getElem? (i := 1) rfl)
theorem dX0_add_4 : decode cX0_add 4 = .ok (.ifCond .ne 6, 3) := bdX0_add_0 (4, .ifCond .ne 6, 3) (List.mem_of_getElem? (i := 2) rfl)
theorem dX0_add_7 : decode cX0_add 7 = .ok (.ldc 60, 2) := bdX0_add_0 (7, .ldc 60, 2) (List.mem_of_getElem? (i := 3) rfl)
theorem dX0_add_9 : decode cX0_add 9 = .ok (.ireturn, 1) := bdX0_add_0 (9, .ireturn, 1) (List.mem_of_getElem? (i := 4) rfl)
theorem dX0_add_10 : decode cX0_add 10 = .ok (.aload_n 0, 1) := bdX0_add_0 (10, .aload_n 0, 1) (List.mem_of_getElem? (i := 5) rfl)
theorem dX0_add_11 : decode cX0_add 11 = .ok (.getfield 30, 3) := bdX0_add_0 (11, .getfield 30, 3) (List.mem_of_getElem? (i := 6) rfl)
theorem dX0_add_14 : decode cX0_add 14 = .ok (.istore 6, 2) := bdX0_add_0 (14, .istore 6, 2) (List.mem_of_getElem? (i := 7) rfl)
theorem dX0_add_16 : decode cX0_add 16 = .ok (.aload_n 0, 1) := bdX0_add_0 (16, .aload_n 0, 1) (List.mem_of_getElem? (i := 8) rfl)
theorem dX0_add_17 : decode cX0_add 17 = .ok (.getfield 9, 3) := bdX0_add_0 (17, .getfield 9, 3) (List.mem_of_getElem? (i := 9) rfl)
theorem dX0_add_20 : decode cX0_add 20 = .ok (.iload 6, 2) := bdX0_add_0 (20, .iload 6, 2) (List.mem_of_getElem? (i := 10) rfl)
theorem dX0_add_22 : decode cX0_add 22 = .ok (.iload_n 1, 1) := bdX0_add_0 (22, .iload_n 1, 1) (List.mem_of_getElem? (i := 11) rfl)
theorem dX0_add_23 : decode cX0_add 23 = .ok (.iastore, 1) := bdX0_add_0 (23, .iastore, 1) (List.mem_of_getElem? (i := 12) rfl)
theorem dX0_add_24 : decode cX0_add 24 = .ok (.aload_n 0, 1) := bdX0_add_0 (24, .aload_n 0, 1) (List.mem_of_getElem? (i := 13) rfl)
theorem dX0_add_25 : decode cX0_add 25 = .ok (.getfield 15, 3) := bdX0_add_0 (25, .getfield 15, 3) (List.mem_of_getElem? (i := 14) rfl)
theorem dX0_add_28 : decode cX0_add 28 = .ok (.iload 6, 2) := bdX0_add_0 (28, .iload 6, 2) (List.mem_of_getElem? (i := 15) rfl)
theorem dX0_add_30 : decode cX0_add 30 = .ok (.iload_n 2, 1) := bdX0_add_0 (30, .iload_n 2, 1) (List.mem_of_getElem? (i := 16) rfl)
theorem dX0_add_31 : decode cX0_add 31 = .ok (.iastore, 1) := bdX0_add_0 (31, .iastore, 1) (List.mem_of_getElem? (i := 17) rfl)
theorem dX0_add_32 : decode cX0_add 32 = .ok (.aload_n 0, 1) := bdX0_add_0 (32, .aload_n 0, 1) (List.mem_of_getElem? (i := 18) rfl)
theorem dX0_add_33 : decode cX0_add 33 = .ok (.getfield 18, 3) := bdX0_add_0 (33, .getfield 18, 3) (List.mem_of_getElem? (i := 19) rfl)
theorem dX0_add_36 : decode cX0_add 36 = .ok (.iload 6, 2) := bdX0_add_0 (36, .iload 6, 2) (List.mem_of_getElem? (i := 20) rfl)
theorem dX0_add_38 : decode cX0_add 38 = .ok (.iload_n 3, 1) := bdX0_add_0 (38, .iload_n 3, 1) (List.mem_of_getElem? (i := 21) rfl)
theorem dX0_add_39 : decode cX0_add 39 = .ok (.iastore, 1) := bdX0_add_0 (39, .iastore, 1) (List.mem_of_getElem? (i := 22) rfl)
theorem dX0_add_40 : decode cX0_add 40 = .ok (.aload_n 0, 1) := bdX0_add_0 (40, .aload_n 0, 1) (List.mem_of_getElem? (i := 23) rfl)
theorem dX0_add_41 : decode cX0_add 41 = .ok (.getfield 21, 3) := bdX0_add_0 (41, .getfield 21, 3) (List.mem_of_getElem? (i := 24) rfl)
theorem dX0_add_44 : decode cX0_add 44 = .ok (.iload 6, 2) := bdX0_add_0 (44, .iload 6, 2) (List.mem_of_getElem? (i := 25) rfl)
theorem dX0_add_46 : decode cX0_add 46 = .ok (.iload 4, 2) := bdX0_add_0 (46, .iload 4, 2) (List.mem_of_getElem? (i := 26) rfl)
theorem dX0_add_48 : decode cX0_add 48 = .ok (.iastore, 1) := bdX0_add_0 (48, .iastore, 1) (List.mem_of_getElem? (i := 27) rfl)
theorem dX0_add_49 : decode cX0_add 49 = .ok (.aload_n 0, 1) := bdX0_add_0 (49, .aload_n 0, 1) (List.mem_of_getElem? (i := 28) rfl)
theorem dX0_add_50 : decode cX0_add 50 = .ok (.getfield 24, 3) := bdX0_add_0 (50, .getfield 24, 3) (List.mem_of_getElem? (i := 29) rfl)
theorem dX0_add_53 : decode cX0_add 53 = .ok (.iload 6, 2) := bdX0_add_0 (53, .iload 6, 2) (List.mem_of_getElem? (i := 30) rfl)
theorem dX0_add_55 : decode cX0_add 55 = .ok (.iload 5, 2) := bdX0_add_0 (55, .iload 5, 2) (List.mem_of_getElem? (i := 31) rfl)
theorem dX0_add_57 : decode cX0_add 57 = .ok (.iastore, 1) := bdX0_add_0 (57, .iastore, 1) (List.mem_of_getElem? (i := 32) rfl)
theorem dX0_add_58 : decode cX0_add 58 = .ok (.aload_n 0, 1) := bdX0_add_0 (58, .aload_n 0, 1) (List.mem_of_getElem? (i := 33) rfl)
theorem dX0_add_59 : decode cX0_add 59 = .ok (.getfield 27, 3) := bdX0_add_0 (59, .getfield 27, 3) (List.mem_of_getElem? (i := 34) rfl)
theorem dX0_add_62 : decode cX0_add 62 = .ok (.iload 6, 2) := bdX0_add_0 (62, .iload 6, 2) (List.mem_of_getElem? (i := 35) rfl)
theorem dX0_add_64 : decode cX0_add 64 = .ok (.iconst 0, 1) := bdX0_add_0 (64, .iconst 0, 1) (List.mem_of_getElem? (i := 36) rfl)
theorem dX0_add_65 : decode cX0_add 65 = .ok (.iastore, 1) := bdX0_add_0 (65, .iastore, 1) (List.mem_of_getElem? (i := 37) rfl)
theorem dX0_add_66 : decode cX0_add 66 = .ok (.aload_n 0, 1) := bdX0_add_0 (66, .aload_n 0, 1) (List.mem_of_getElem? (i := 38) rfl)
theorem dX0_add_67 : decode cX0_add 67 = .ok (.iload 6, 2) := bdX0_add_0 (67, .iload 6, 2) (List.mem_of_getElem? (i := 39) rfl)
theorem bdX0_add_69 : ∀ q ∈ ([(69, .iconst 1, 1), (70, .iadd, 1), (71, .putfield 30, 3), (74, .iload 6, 2), (76, .ireturn, 1)] : List (Nat × Jvm.ClassFile.Instr × Nat)), decode cX0_add q.1 = .ok q.2 := chk_ok _ 69 _ rfl (by decide +kernel)
theorem dX0_add_69 : decode cX0_add 69 = .ok (.iconst 1, 1) := bdX0_add_69 (69, .iconst 1, 1) (List.mem_of_getElem? (i := 0) rfl)
theorem dX0_add_70 : decode cX0_add 70 = .ok (.iadd, 1) := bdX0_add_69 (70, .iadd, 1) (List.mem_of_getElem? (i := 1) rfl)
theorem dX0_add_71 : decode cX0_add 71 = .ok (.putfield 30, 3) := bdX0_add_69 (71, .putfield 30, 3) (List.mem_of_getElem? (i := 2) rfl)
theorem dX0_add_74 : decode cX0_add 74 = .ok (.iload 6, 2) := bdX0_add_69 (74, .iload 6, 2) (List.mem_of_getElem? (i := 3) rfl)
theorem dX0_add_76 : decode cX0_add 76 = .ok (.ireturn, 1) := bdX0_add_69 (76, .ireturn, 1) (List.mem_of_getElem? (i := 4) rfl)
theorem kX0_56 : mthV RX0 56 0 yX0_hasRoom prog_2_method_4_code 1 (Option.some Jvm.ClassFile.FieldType.boolean) 0 := ⟨⟨⟨tw_347, tw_61, tw_341⟩, rfl, by decide +kernel⟩, tw_339, tw_340, rfl⟩
theorem fX0_9 : fldOK RX0 9 0 0 (.array .int) true := ⟨_, _, _, tyX0, ⟨rfl, iX0, by decide, rfl, by decide⟩, tw_93, ⟨tyX0_ok, nmX0⟩, by decide +kernel, rfl, rfl⟩
theorem fX0_15 : fldOK RX0 15 0 1 (.array .int) true := ⟨_, _, _, tyX0, ⟨rfl, iX0, by decide, rfl, by decide⟩, tw_96, ⟨tyX0_ok, nmX0⟩, by decide +kernel, rfl, rfl⟩
theorem fX0_18 : fldOK RX0 18 0 2 (.array .int) true := ⟨_, _, _, tyX0, ⟨rfl, iX0, by decide, rfl, by decide⟩, tw_99, ⟨tyX0_ok, nmX0⟩, by decide +kernel, rfl, rfl⟩
theorem fX0_24 : fldOK RX0 24 0 4 (.array .int) true := ⟨_, _, _, tyX0, ⟨rfl, iX0, by decide, rfl, by decide⟩, tw_104, ⟨tyX0_ok, nmX0⟩, by decide +kernel, rfl, rfl⟩
theorem fX0_27 : fldOK RX0 27 0 5 (.array .int) true := ⟨_, _, _, tyX0, ⟨rfl, iX0, by decide, rfl, by decide⟩, tw_107, ⟨tyX0_ok, nmX0⟩, by decide +kernel, rfl, rfl⟩
def wpX0_add (ln : Nat → Nat) (S : HC) (a0 : Nat) (a1 : Int32) (a2 : Int32) (a3 : Int32) (a4 : Int32) (a5 : Int32) (post : Int32 → HC → Prop) : Prop := wpX0_hasRoom ln S a0 fun z1 S => if z1 = 0 then (post (-1000000003 : Int32) S) else (lt_ (hI S a0 6) fun z2 => dn_ (hR S a0 0) fun b3 => as_ (ln b3) z2 (fun j => sI S b3 j a1) fun S => dn_ (hR S a0 1) fun b4 => as_ (ln b4) z2 (fun j => sI S b4 j a2) fun S => dn_ (hR S a0 2) fun b5 => as_ (ln b5) z2 (fun j => sI S b5 j a3) fun S => dn_ (hR S a0 3) fun b6 => as_ (ln b6) z2 (fun j => sI S b6 j a4) fun S => dn_ (hR S a0 4) fun b7 => as_ (ln b7) z2 (fun j => sI S b7 j a5) fun S => dn_ (hR S a0 5) fun b8 => as_ (ln b8) z2 (fun j => sI S b8 j (0 : Int32)) fun S => lt_ (z2 + (1 : Int32)) fun z9 => lt_ (sI S a0 6 z9) fun S => post z2 S)
abbrev rmX0_add : Room := { frames := 1, cells := 0, slots := 0, locals := 20 }
set_option maxHeartbeats 4000000 in
set_option maxRecDepth 100000 in
theorem ctX0_add {l : Launch} {g : GX} {N : Nat} {ln : Nat → Nat} {S : HC} {a0 : Nat} {a1 : Int32} {a2 : Int32} {a3 : Int32} {a4 : Int32} {a5 : Int32} {post : Int32 → HC → Prop} (hr_a0 : a0 < N) (hk_a0 : kd a0 = 0) (h : wpX0_add ln S a0 a1 a2 a3 a4 a5 post) : Met l yX0_add (Cond.code yX0_add prog_2_method_6_code 7 (Option.some Jvm.ClassFile.FieldType.int) :: gtbl) rmX0_add (va_Pc [.ref (gz g + a0), .int a1, .int a2, .int a3, .int a4, .int a5] (AtP g N ln S)) (QI g N ln post) 0 0 (gF g) := by
  refine m_of (by decide) (Nat.le_of_ble_eq_true rfl) ?_
  intro p e s m below meth c ls F hr I hl
  have hl : lv_has ls 7 [(0, .ref (gz g + a0)), (1, .int a1), (2, .int a2), (3, .int a3), (4, .int a4), (5, .int a5)] := hl
  unfold wpX0_add at h
  refine lv_aload_n F.1 F.2.1 dX0_add_0 rfl (lv_at hl 0 rfl) ?_
  refine g_I I (run_V (As := []) (rest := []) F I hr_a0 hk_a0 (by decide) kX0_56 (ctX0_hasRoom hr_a0 hk_a0 h) ⟨rfl, rfl⟩ ⟨Nat.le_of_ble_eq_true rfl, Nat.le_of_ble_eq_true rfl⟩ rfl hl.1 rfl (Nat.le_of_ble_eq_true rfl) ⟨Nat.le_of_ble_eq_true rfl, Nat.le_of_ble_eq_true rfl⟩ dX0_add_1) (fun z1 S H locs I h => ?_)
  refine r_if_ne (tgt := 10) F dX0_add_4 (by decide) h (fun h => ?_) (fun h => ?_)
  · refine lv_aload_n F.1 F.2.1 dX0_add_10 rfl (lv_at hl 0 rfl) ?_
    refine r_getI F I hr_a0 hk_a0 fX0_30 rfl dX0_add_11 h (fun z2 h => ?_)
    refine lv_istore (lv' := [(6, .int z2), (0, .ref (gz g + a0)), (1, .int a1), (2, .int a2), (3, .int a3), (4, .int a4), (5, .int a5)]) F.1 F.2.1 dX0_add_14 hl (by decide) rfl (fun ls hl => ?_)
    refine lv_aload_n F.1 F.2.1 dX0_add_16 rfl (lv_at hl 1 rfl) ?_
    refine r_getN F I hr_a0 hk_a0 fX0_9 (f := 9) rfl (by decide) dX0_add_17 h (fun b3 hr_b3 hk_b3 h => ?_)
    refine lv_iload F.1 F.2.1 dX0_add_20 (lv_at hl 0 rfl) ?_
    refine lv_iload_n F.1 F.2.1 dX0_add_22 rfl (lv_at hl 2 rfl) ?_
    refine r_ast F I hr_b3 hk_b3 dX0_add_23 h (fun S H locs I h => ?_)
    refine lv_aload_n F.1 F.2.1 dX0_add_24 rfl (lv_at hl 1 rfl) ?_
    refine r_getN F I hr_a0 hk_a0 fX0_15 (f := 9) rfl (by decide) dX0_add_25 h (fun b4 hr_b4 hk_b4 h => ?_)
    refine lv_iload F.1 F.2.1 dX0_add_28 (lv_at hl 0 rfl) ?_
    refine lv_iload_n F.1 F.2.1 dX0_add_30 rfl (lv_at hl 3 rfl) ?_
    refine r_ast F I hr_b4 hk_b4 dX0_add_31 h (fun S H locs I h => ?_)
    refine lv_aload_n F.1 F.2.1 dX0_add_32 rfl (lv_at hl 1 rfl) ?_
    refine r_getN F I hr_a0 hk_a0 fX0_18 (f := 9) rfl (by decide) dX0_add_33 h (fun b5 hr_b5 hk_b5 h => ?_)
    refine lv_iload F.1 F.2.1 dX0_add_36 (lv_at hl 0 rfl) ?_
    refine lv_iload_n F.1 F.2.1 dX0_add_38 rfl (lv_at hl 4 rfl) ?_
    refine r_ast F I hr_b5 hk_b5 dX0_add_39 h (fun S H locs I h => ?_)
    refine lv_aload_n F.1 F.2.1 dX0_add_40 rfl (lv_at hl 1 rfl) ?_
    refine r_getN F I hr_a0 hk_a0 fX0_21 (f := 9) rfl (by decide) dX0_add_41 h (fun b6 hr_b6 hk_b6 h => ?_)
    refine lv_iload F.1 F.2.1 dX0_add_44 (lv_at hl 0 rfl) ?_
    refine lv_iload F.1 F.2.1 dX0_add_46 (lv_at hl 5 rfl) ?_
    refine r_ast F I hr_b6 hk_b6 dX0_add_48 h (fun S H locs I h => ?_)
    refine lv_aload_n F.1 F.2.1 dX0_add_49 rfl (lv_at hl 1 rfl) ?_
    refine r_getN F I hr_a0 hk_a0 fX0_24 (f := 9) rfl (by decide) dX0_add_50 h (fun b7 hr_b7 hk_b7 h => ?_)
    refine lv_iload F.1 F.2.1 dX0_add_53 (lv_at hl 0 rfl) ?_
    refine lv_iload F.1 F.2.1 dX0_add_55 (lv_at hl 6 rfl) ?_
    refine r_ast F I hr_b7 hk_b7 dX0_add_57 h (fun S H locs I h => ?_)
    refine lv_aload_n F.1 F.2.1 dX0_add_58 rfl (lv_at hl 1 rfl) ?_
    refine r_getN F I hr_a0 hk_a0 fX0_27 (f := 9) rfl (by decide) dX0_add_59 h (fun b8 hr_b8 hk_b8 h => ?_)
    refine lv_iload F.1 F.2.1 dX0_add_62 (lv_at hl 0 rfl) ?_
    refine lv_iconst (v := 0) F.1 F.2.1 dX0_add_64 (by decide) ?_
    refine r_ast F I hr_b8 hk_b8 dX0_add_65 h (fun S H locs I h => ?_)
    refine lv_aload_n F.1 F.2.1 dX0_add_66 rfl (lv_at hl 1 rfl) ?_
    refine lv_iload F.1 F.2.1 dX0_add_67 (lv_at hl 0 rfl) ?_
    refine lv_iconst (v := 1) F.1 F.2.1 dX0_add_69 (by decide) ?_
    refine r_iadd F dX0_add_70 h (fun z9 h => ?_)
    refine r_putI F I hr_a0 hk_a0 fX0_30 rfl (Or.inl rfl) ⟨rfl, rfl⟩ dX0_add_71 h (fun S H locs I h => ?_)
    refine lv_iload F.1 F.2.1 dX0_add_74 (lv_at hl 0 rfl) ?_
    exact r_ireturn F I ⟨hr.1, hr.2.1, trivial⟩ h dX0_add_76
  · refine lv_ldc F.1 F.2.1 F.2.2.2.1 (F.2.2.2.2 _ tw_348) dX0_add_7 ?_
    exact r_ireturn F I ⟨hr.1, hr.2.1, trivial⟩ h dX0_add_9
theorem bdX0_draw_0 : ∀ q ∈ ([(0, .aload_n 0, 1), (1, .aload_n 0, 1), (2, .getfield 40, 3), (5, .ldc 61, 2), (7, .imul, 1), (8, .sipush 12345, 3), (11, .iadd, 1), (12, .putfield 40, 3), (15, .aload_n 0, 1), (16, .getfield 40, 3), (19, .bipush 8, 2), (22, .ireturn, 1)] : List (Nat × Jvm.ClassFile.Instr × Nat)), decode cX0_draw q.1 = .ok q.2 := chk_ok _ 0 _ rfl (by decide +kernel)
theorem dX0_draw_0 : decode cX0_draw 0 = .ok (.aload_n 0, 1) := bdX0_draw_0 (0, .aload_n 0, 1) (List.mem_of_getElem? (i := 0) rfl)
theorem dX0_draw_1 : decode cX0_draw 1 = .ok (.aload_n 0, 1) := bdX0_draw_0 (1, .aload_n 0, 1) (List.mem_of_getElem? (i := 1) rfl)
theorem dX0_draw_2 : decode cX0_draw 2 = .ok (.getfield 40, 3) := bdX0_draw_0 (2, .getfield 40, 3) (List.mem_of_getElem? (i := 2) rfl)
theorem dX0_draw_5 : decode cX0_draw 5 = .ok (.ldc 61, 2) := bdX0_draw_0 (5, .ldc 61, 2) (List.mem_of_getElem? (i := 3) rfl)
theorem dX0_draw_7 : decode cX0_draw 7 = .ok (.imul, 1) := bdX0_draw_0 (7, .imul, 1) (List.mem_of_getElem? (i := 4) rfl)
theorem dX0_draw_8 : decode cX0_draw 8 = .ok (.sipush 12345, 3) := bdX0_draw_0 (8, .sipush 12345, 3) (List.mem_of_getElem? (i := 5) rfl)
theorem dX0_draw_11 : decode cX0_draw 11 = .ok (.iadd, 1) := bdX0_draw_0 (11, .iadd, 1) (List.mem_of_getElem? (i := 6) rfl)
theorem dX0_draw_12 : decode cX0_draw 12 = .ok (.putfield 40, 3) := bdX0_draw_0 (12, .putfield 40, 3) (List.mem_of_getElem? (i := 7) rfl)
theorem dX0_draw_15 : decode cX0_draw 15 = .ok (.aload_n 0, 1) := bdX0_draw_0 (15, .aload_n 0, 1) (List.mem_of_getElem? (i := 8) rfl)
theorem dX0_draw_16 : decode cX0_draw 16 = .ok (.getfield 40, 3) := bdX0_draw_0 (16, .getfield 40, 3) (List.mem_of_getElem? (i := 9) rfl)
theorem dX0_draw_19 : decode cX0_draw 19 = .ok (.bipush 8, 2) := bdX0_draw_0 (19, .bipush 8, 2) (List.mem_of_getElem? (i := 10) rfl)
theorem dX0_draw_22 : decode cX0_draw 22 = .ok (.ireturn, 1) := bdX0_draw_0 (22, .ireturn, 1) (List.mem_of_getElem? (i := 11) rfl)
theorem dX0_draw_21 : decode cX0_draw 21 = .ok (.iushr, 1) := by decide +kernel
theorem fX0_40 : fldOK RX0 40 0 9 .int false := ⟨_, _, _, tyX0, ⟨rfl, iX0, by decide, rfl, by decide⟩, tw_117, ⟨tyX0_ok, nmX0⟩, by decide +kernel, rfl, rfl⟩
def wpX0_draw (ln : Nat → Nat) (S : HC) (a0 : Nat) (post : Int32 → HC → Prop) : Prop := lt_ (hI S a0 9) fun z1 => lt_ (z1 * (1103515245 : Int32)) fun z2 => lt_ (z2 + (12345 : Int32)) fun z3 => lt_ (sI S a0 9 z3) fun S => lt_ (hI S a0 9) fun z4 => lt_ ((z4.toUInt32 >>> ((8 : Int32).toUInt32 &&& Int32.toUInt32 31)).toInt32) fun z5 => post z5 S
abbrev rmX0_draw : Room := { frames := 0, cells := 0, slots := 0, locals := 0 }
set_option maxHeartbeats 4000000 in
set_option maxRecDepth 100000 in
theorem ctX0_draw {l : Launch} {g : GX} {N : Nat} {ln : Nat → Nat} {S : HC} {a0 : Nat} {post : Int32 → HC → Prop} (hr_a0 : a0 < N) (hk_a0 : kd a0 = 0) (h : wpX0_draw ln S a0 post) : Met l yX0_draw (Cond.code yX0_draw prog_2_method_7_code 1 (Option.some Jvm.ClassFile.FieldType.int) :: gtbl) rmX0_draw (va_Pc [.ref (gz g + a0)] (AtP g N ln S)) (QI g N ln post) 0 0 (gF g) := by
  refine m_of (by decide) (Nat.le_of_ble_eq_true rfl) ?_
  intro p e s m below meth c ls F hr I hl
  have hl : lv_has ls 1 [(0, .ref (gz g + a0))] := hl
  unfold wpX0_draw at h
  refine lv_aload_n F.1 F.2.1 dX0_draw_0 rfl (lv_at hl 0 rfl) ?_
  refine lv_aload_n F.1 F.2.1 dX0_draw_1 rfl (lv_at hl 0 rfl) ?_
  refine r_getI F I hr_a0 hk_a0 fX0_40 rfl dX0_draw_2 h (fun z1 h => ?_)
  refine lv_ldc F.1 F.2.1 F.2.2.2.1 (F.2.2.2.2 _ tw_463) dX0_draw_5 ?_
  refine r_imul F dX0_draw_7 h (fun z2 h => ?_)
  refine lv_sipush (v := 12345) F.1 F.2.1 dX0_draw_8 (by decide) ?_
  refine r_iadd F dX0_draw_11 h (fun z3 h => ?_)
  refine r_putI F I hr_a0 hk_a0 fX0_40 rfl (Or.inl rfl) ⟨rfl, rfl⟩ dX0_draw_12 h (fun S H locs I h => ?_)
  refine lv_aload_n F.1 F.2.1 dX0_draw_15 rfl (lv_at hl 0 rfl) ?_
  refine r_getI F I hr_a0 hk_a0 fX0_40 rfl dX0_draw_16 h (fun z4 h => ?_)
  refine lv_bipush (v := 8) F.1 F.2.1 dX0_draw_19 (by decide) ?_
  refine r_iushr F dX0_draw_21 h (fun z5 h => ?_)
  exact r_ireturn F I ⟨hr.1, hr.2.1, trivial⟩ h dX0_draw_22
theorem bdX0_drawFounder_0 : ∀ q ∈ ([(0, .aload_n 0, 1), (1, .invokevirtual 62, 3), (4, .bipush 6, 2), (6, .irem, 1), (7, .istore_n 1, 1), (8, .aload_n 0, 1), (9, .invokevirtual 62, 3), (12, .iconst 2, 1), (13, .irem, 1), (14, .istore_n 2, 1), (15, .aload_n 0, 1), (16, .iload_n 1, 1), (17, .iconst (-1), 1), (18, .iconst (-1), 1), (19, .iload_n 2, 1), (20, .aload_n 0, 1), (21, .invokevirtual 62, 3), (24, .bipush 8, 2), (26, .irem, 1), (27, .invokevirtual 66, 3), (30, .pop, 1), (31, .return_, 1)] : List (Nat × Jvm.ClassFile.Instr × Nat)), decode cX0_drawFounder q.1 = .ok q.2 := chk_ok _ 0 _ rfl (by decide +kernel)
theorem dX0_drawFounder_0 : decode cX0_drawFounder 0 = .ok (.aload_n 0, 1) := bdX0_drawFounder_0 (0, .aload_n 0, 1) (List.mem_of_getElem? (i := 0) rfl)
theorem dX0_drawFounder_1 : decode cX0_drawFounder 1 = .ok (.invokevirtual 62, 3) := bdX0_drawFounder_0 (1, .invokevirtual 62, 3) (List.mem_of_getElem? (i := 1) rfl)
theorem dX0_drawFounder_4 : decode cX0_drawFounder 4 = .ok (.bipush 6, 2) := bdX0_drawFounder_0 (4, .bipush 6, 2) (List.mem_of_getElem? (i := 2) rfl)
theorem dX0_drawFounder_6 : decode cX0_drawFounder 6 = .ok (.irem, 1) := bdX0_drawFounder_0 (6, .irem, 1) (List.mem_of_getElem? (i := 3) rfl)
theorem dX0_drawFounder_7 : decode cX0_drawFounder 7 = .ok (.istore_n 1, 1) := bdX0_drawFounder_0 (7, .istore_n 1, 1) (List.mem_of_getElem? (i := 4) rfl)
theorem dX0_drawFounder_8 : decode cX0_drawFounder 8 = .ok (.aload_n 0, 1) := bdX0_drawFounder_0 (8, .aload_n 0, 1) (List.mem_of_getElem? (i := 5) rfl)
theorem dX0_drawFounder_9 : decode cX0_drawFounder 9 = .ok (.invokevirtual 62, 3) := bdX0_drawFounder_0 (9, .invokevirtual 62, 3) (List.mem_of_getElem? (i := 6) rfl)
theorem dX0_drawFounder_12 : decode cX0_drawFounder 12 = .ok (.iconst 2, 1) := bdX0_drawFounder_0 (12, .iconst 2, 1) (List.mem_of_getElem? (i := 7) rfl)
theorem dX0_drawFounder_13 : decode cX0_drawFounder 13 = .ok (.irem, 1) := bdX0_drawFounder_0 (13, .irem, 1) (List.mem_of_getElem? (i := 8) rfl)
theorem dX0_drawFounder_14 : decode cX0_drawFounder 14 = .ok (.istore_n 2, 1) := bdX0_drawFounder_0 (14, .istore_n 2, 1) (List.mem_of_getElem? (i := 9) rfl)
theorem dX0_drawFounder_15 : decode cX0_drawFounder 15 = .ok (.aload_n 0, 1) := bdX0_drawFounder_0 (15, .aload_n 0, 1) (List.mem_of_getElem? (i := 10) rfl)
theorem dX0_drawFounder_16 : decode cX0_drawFounder 16 = .ok (.iload_n 1, 1) := bdX0_drawFounder_0 (16, .iload_n 1, 1) (List.mem_of_getElem? (i := 11) rfl)
theorem dX0_drawFounder_17 : decode cX0_drawFounder 17 = .ok (.iconst (-1), 1) := bdX0_drawFounder_0 (17, .iconst (-1), 1) (List.mem_of_getElem? (i := 12) rfl)
theorem dX0_drawFounder_18 : decode cX0_drawFounder 18 = .ok (.iconst (-1), 1) := bdX0_drawFounder_0 (18, .iconst (-1), 1) (List.mem_of_getElem? (i := 13) rfl)
theorem dX0_drawFounder_19 : decode cX0_drawFounder 19 = .ok (.iload_n 2, 1) := bdX0_drawFounder_0 (19, .iload_n 2, 1) (List.mem_of_getElem? (i := 14) rfl)
theorem dX0_drawFounder_20 : decode cX0_drawFounder 20 = .ok (.aload_n 0, 1) := bdX0_drawFounder_0 (20, .aload_n 0, 1) (List.mem_of_getElem? (i := 15) rfl)
theorem dX0_drawFounder_21 : decode cX0_drawFounder 21 = .ok (.invokevirtual 62, 3) := bdX0_drawFounder_0 (21, .invokevirtual 62, 3) (List.mem_of_getElem? (i := 16) rfl)
theorem dX0_drawFounder_24 : decode cX0_drawFounder 24 = .ok (.bipush 8, 2) := bdX0_drawFounder_0 (24, .bipush 8, 2) (List.mem_of_getElem? (i := 17) rfl)
theorem dX0_drawFounder_26 : decode cX0_drawFounder 26 = .ok (.irem, 1) := bdX0_drawFounder_0 (26, .irem, 1) (List.mem_of_getElem? (i := 18) rfl)
theorem dX0_drawFounder_27 : decode cX0_drawFounder 27 = .ok (.invokevirtual 66, 3) := bdX0_drawFounder_0 (27, .invokevirtual 66, 3) (List.mem_of_getElem? (i := 19) rfl)
theorem dX0_drawFounder_30 : decode cX0_drawFounder 30 = .ok (.pop, 1) := bdX0_drawFounder_0 (30, .pop, 1) (List.mem_of_getElem? (i := 20) rfl)
theorem dX0_drawFounder_31 : decode cX0_drawFounder 31 = .ok (.return_, 1) := bdX0_drawFounder_0 (31, .return_, 1) (List.mem_of_getElem? (i := 21) rfl)
theorem kX0_62 : mthV RX0 62 0 yX0_draw prog_2_method_7_code 1 (Option.some Jvm.ClassFile.FieldType.int) 0 := ⟨⟨⟨tw_459, tw_61, tw_462⟩, rfl, by decide +kernel⟩, tw_460, tw_461, rfl⟩
theorem kX0_66 : mthV RX0 66 0 yX0_add prog_2_method_6_code 7 (Option.some Jvm.ClassFile.FieldType.int) 5 := ⟨⟨⟨tw_464, tw_61, tw_346⟩, rfl, by decide +kernel⟩, tw_344, tw_345, rfl⟩
def wpX0_drawFounder (ln : Nat → Nat) (S : HC) (a0 : Nat) (post : HC → Prop) : Prop := wpX0_draw ln S a0 fun z1 S => ne_ (6 : Int32) <| lt_ (z1 - z1 / (6 : Int32) * (6 : Int32)) fun z2 => wpX0_draw ln S a0 fun z3 S => ne_ (2 : Int32) <| lt_ (z3 - z3 / (2 : Int32) * (2 : Int32)) fun z4 => wpX0_draw ln S a0 fun z5 S => ne_ (8 : Int32) <| lt_ (z5 - z5 / (8 : Int32) * (8 : Int32)) fun z6 => wpX0_add ln S a0 z2 (-1 : Int32) (-1 : Int32) z4 z6 fun z7 S => post S
abbrev rmX0_drawFounder : Room := { frames := 2, cells := 0, slots := 0, locals := 46 }
set_option maxHeartbeats 4000000 in
set_option maxRecDepth 100000 in
theorem ctX0_drawFounder {l : Launch} {g : GX} {N : Nat} {ln : Nat → Nat} {S : HC} {a0 : Nat} {post : HC → Prop} (hr_a0 : a0 < N) (hk_a0 : kd a0 = 0) (h : wpX0_drawFounder ln S a0 post) : Met l yX0_drawFounder (Cond.code yX0_drawFounder prog_2_method_8_code 3 (Option.none : Option Jvm.ClassFile.FieldType) :: gtbl) rmX0_drawFounder (va_Pc [.ref (gz g + a0)] (AtP g N ln S)) (QV g N ln post) 0 0 (gF g) := by
  refine m_of (by decide) (Nat.le_of_ble_eq_true rfl) ?_
  intro p e s m below meth c ls F hr I hl
  have hl : lv_has ls 3 [(0, .ref (gz g + a0))] := hl
  unfold wpX0_drawFounder at h
  refine lv_aload_n F.1 F.2.1 dX0_drawFounder_0 rfl (lv_at hl 0 rfl) ?_
  refine g_I I (run_V (As := []) (rest := []) F I hr_a0 hk_a0 (by decide) kX0_62 (ctX0_draw hr_a0 hk_a0 h) ⟨rfl, rfl⟩ ⟨Nat.le_of_ble_eq_true rfl, Nat.le_of_ble_eq_true rfl⟩ rfl hl.1 rfl (Nat.le_of_ble_eq_true rfl) ⟨Nat.le_of_ble_eq_true rfl, Nat.le_of_ble_eq_true rfl⟩ dX0_drawFounder_1) (fun z1 S H locs I h => ?_)
  refine lv_bipush (v := 6) F.1 F.2.1 dX0_drawFounder_4 (by decide) ?_
  refine r_irem F dX0_drawFounder_6 h (fun z2 h => ?_)
  refine lv_istore_n (lv' := [(1, .int z2), (0, .ref (gz g + a0))]) F.1 F.2.1 dX0_drawFounder_7 rfl hl (by decide) rfl (fun ls hl => ?_)
  refine lv_aload_n F.1 F.2.1 dX0_drawFounder_8 rfl (lv_at hl 1 rfl) ?_
  refine g_I I (run_V (As := []) (rest := []) F I hr_a0 hk_a0 (by decide) kX0_62 (ctX0_draw hr_a0 hk_a0 h) ⟨rfl, rfl⟩ ⟨Nat.le_of_ble_eq_true rfl, Nat.le_of_ble_eq_true rfl⟩ rfl hl.1 rfl (Nat.le_of_ble_eq_true rfl) ⟨Nat.le_of_ble_eq_true rfl, Nat.le_of_ble_eq_true rfl⟩ dX0_drawFounder_9) (fun z3 S H locs I h => ?_)
  refine lv_iconst (v := 2) F.1 F.2.1 dX0_drawFounder_12 (by decide) ?_
  refine r_irem F dX0_drawFounder_13 h (fun z4 h => ?_)
  refine lv_istore_n (lv' := [(2, .int z4), (1, .int z2), (0, .ref (gz g + a0))]) F.1 F.2.1 dX0_drawFounder_14 rfl hl (by decide) rfl (fun ls hl => ?_)
  refine lv_aload_n F.1 F.2.1 dX0_drawFounder_15 rfl (lv_at hl 2 rfl) ?_
  refine lv_iload_n F.1 F.2.1 dX0_drawFounder_16 rfl (lv_at hl 1 rfl) ?_
  refine lv_iconst (v := -1) F.1 F.2.1 dX0_drawFounder_17 (by decide) ?_
  refine lv_iconst (v := -1) F.1 F.2.1 dX0_drawFounder_18 (by decide) ?_
  refine lv_iload_n F.1 F.2.1 dX0_drawFounder_19 rfl (lv_at hl 0 rfl) ?_
  refine lv_aload_n F.1 F.2.1 dX0_drawFounder_20 rfl (lv_at hl 2 rfl) ?_
  refine g_I I (run_V (As := []) (rest := [.int z4, .int (-1 : Int32), .int (-1 : Int32), .int z2, .ref (gz g + a0)]) F I hr_a0 hk_a0 (by decide) kX0_62 (ctX0_draw hr_a0 hk_a0 h) ⟨rfl, rfl⟩ ⟨Nat.le_of_ble_eq_true rfl, Nat.le_of_ble_eq_true rfl⟩ rfl hl.1 rfl (Nat.le_of_ble_eq_true rfl) ⟨Nat.le_of_ble_eq_true rfl, Nat.le_of_ble_eq_true rfl⟩ dX0_drawFounder_21) (fun z5 S H locs I h => ?_)
  refine lv_bipush (v := 8) F.1 F.2.1 dX0_drawFounder_24 (by decide) ?_
  refine r_irem F dX0_drawFounder_26 h (fun z6 h => ?_)
  refine g_I I (run_V (As := [.int z2, .int (-1 : Int32), .int (-1 : Int32), .int z4, .int z6]) (rest := []) F I hr_a0 hk_a0 (by decide) kX0_66 (ctX0_add hr_a0 hk_a0 h) ⟨rfl, rfl⟩ ⟨Nat.le_of_ble_eq_true rfl, Nat.le_of_ble_eq_true rfl⟩ rfl hl.1 rfl (Nat.le_of_ble_eq_true rfl) ⟨Nat.le_of_ble_eq_true rfl, Nat.le_of_ble_eq_true rfl⟩ dX0_drawFounder_27) (fun z7 S H locs I h => ?_)
  refine lv_pop F.1 F.2.1 dX0_drawFounder_30 rfl ?_
  exact r_vreturn F I ⟨hr.1, hr.2.1, trivial⟩ h dX0_drawFounder_31
theorem bdX0_howMany_0 : ∀ q ∈ ([(0, .iconst 0, 1), (1, .istore_n 2, 1), (2, .iconst 0, 1), (3, .istore_n 3, 1), (4, .iload_n 3, 1), (5, .aload_n 0, 1), (6, .getfield 30, 3), (9, .if_icmp .ge 22, 3), (12, .aload_n 0, 1), (13, .getfield 21, 3), (16, .iload_n 3, 1), (17, .iaload, 1), (18, .iload_n 1, 1), (19, .if_icmp .ne 6, 3), (22, .iinc 2 1, 3), (25, .iinc 3 1, 3), (28, .goto (-24), 3), (31, .iload_n 2, 1), (32, .ireturn, 1)] : List (Nat × Jvm.ClassFile.Instr × Nat)), decode cX0_howMany q.1 = .ok q.2 := chk_ok _ 0 _ rfl (by decide +kernel)
theorem dX0_howMany_0 : decode cX0_howMany 0 = .ok (.iconst 0, 1) := bdX0_howMany_0 (0, .iconst 0, 1) (List.mem_of_getElem? (i := 0) rfl)
theorem dX0_howMany_1 : decode cX0_howMany 1 = .ok (.istore_n 2, 1) := bdX0_howMany_0 (1, .istore_n 2, 1) (List.mem_of_getElem? (i := 1) rfl)
theorem dX0_howMany_2 : decode cX0_howMany 2 = .ok (.iconst 0, 1) := bdX0_howMany_0 (2, .iconst 0, 1) (List.mem_of_getElem? (i := 2) rfl)
theorem dX0_howMany_3 : decode cX0_howMany 3 = .ok (.istore_n 3, 1) := bdX0_howMany_0 (3, .istore_n 3, 1) (List.mem_of_getElem? (i := 3) rfl)
theorem dX0_howMany_4 : decode cX0_howMany 4 = .ok (.iload_n 3, 1) := bdX0_howMany_0 (4, .iload_n 3, 1) (List.mem_of_getElem? (i := 4) rfl)
theorem dX0_howMany_5 : decode cX0_howMany 5 = .ok (.aload_n 0, 1) := bdX0_howMany_0 (5, .aload_n 0, 1) (List.mem_of_getElem? (i := 5) rfl)
theorem dX0_howMany_6 : decode cX0_howMany 6 = .ok (.getfield 30, 3) := bdX0_howMany_0 (6, .getfield 30, 3) (List.mem_of_getElem? (i := 6) rfl)
theorem dX0_howMany_9 : decode cX0_howMany 9 = .ok (.if_icmp .ge 22, 3) := bdX0_howMany_0 (9, .if_icmp .ge 22, 3) (List.mem_of_getElem? (i := 7) rfl)
theorem dX0_howMany_12 : decode cX0_howMany 12 = .ok (.aload_n 0, 1) := bdX0_howMany_0 (12, .aload_n 0, 1) (List.mem_of_getElem? (i := 8) rfl)
theorem dX0_howMany_13 : decode cX0_howMany 13 = .ok (.getfield 21, 3) := bdX0_howMany_0 (13, .getfield 21, 3) (List.mem_of_getElem? (i := 9) rfl)
theorem dX0_howMany_16 : decode cX0_howMany 16 = .ok (.iload_n 3, 1) := bdX0_howMany_0 (16, .iload_n 3, 1) (List.mem_of_getElem? (i := 10) rfl)
theorem dX0_howMany_17 : decode cX0_howMany 17 = .ok (.iaload, 1) := bdX0_howMany_0 (17, .iaload, 1) (List.mem_of_getElem? (i := 11) rfl)
theorem dX0_howMany_18 : decode cX0_howMany 18 = .ok (.iload_n 1, 1) := bdX0_howMany_0 (18, .iload_n 1, 1) (List.mem_of_getElem? (i := 12) rfl)
theorem dX0_howMany_19 : decode cX0_howMany 19 = .ok (.if_icmp .ne 6, 3) := bdX0_howMany_0 (19, .if_icmp .ne 6, 3) (List.mem_of_getElem? (i := 13) rfl)
theorem dX0_howMany_22 : decode cX0_howMany 22 = .ok (.iinc 2 1, 3) := bdX0_howMany_0 (22, .iinc 2 1, 3) (List.mem_of_getElem? (i := 14) rfl)
theorem dX0_howMany_25 : decode cX0_howMany 25 = .ok (.iinc 3 1, 3) := bdX0_howMany_0 (25, .iinc 3 1, 3) (List.mem_of_getElem? (i := 15) rfl)
theorem dX0_howMany_28 : decode cX0_howMany 28 = .ok (.goto (-24), 3) := bdX0_howMany_0 (28, .goto (-24), 3) (List.mem_of_getElem? (i := 16) rfl)
theorem dX0_howMany_31 : decode cX0_howMany 31 = .ok (.iload_n 2, 1) := bdX0_howMany_0 (31, .iload_n 2, 1) (List.mem_of_getElem? (i := 17) rfl)
theorem dX0_howMany_32 : decode cX0_howMany 32 = .ok (.ireturn, 1) := bdX0_howMany_0 (32, .ireturn, 1) (List.mem_of_getElem? (i := 18) rfl)
def BX0_howMany_25 (ln : Nat → Nat) (post : Int32 → HC → Prop) (K4 : HC → Nat → Int32 → Int32 → Int32 → Prop) (S : HC) (x0 : Nat) (x1 : Int32) (x2 : Int32) (x3 : Int32) : Prop := lt_ (x3 + (1 : Int32)) fun z1 => K4 S x0 x1 x2 z1
def LX0_howMany_4 (ln : Nat → Nat) (post : Int32 → HC → Prop) : Nat → HC → Nat → Int32 → Int32 → Int32 → Prop
  | 0 => fun _ _ _ _ _ => False
  | n4 + 1 => fun S x0 x1 x2 x3 => lt_ (hI S x0 6) fun z2 => if z2 ≤ x3 then (post x2 S) else (dn_ (hR S x0 3) fun b3 => al_ (ln b3) x3 (hI S b3) fun z4 => if z4 = x1 then (lt_ (x2 + (1 : Int32)) fun z5 => BX0_howMany_25 ln post (LX0_howMany_4 ln post n4) S x0 x1 z5 x3) else (BX0_howMany_25 ln post (LX0_howMany_4 ln post n4) S x0 x1 x2 x3))
def wpX0_howMany (ln : Nat → Nat) (S : HC) (a0 : Nat) (a1 : Int32) (post : Int32 → HC → Prop) : Prop := ∃ n4, LX0_howMany_4 ln post n4 S a0 a1 (0 : Int32) (0 : Int32)
abbrev rmX0_howMany : Room := { frames := 0, cells := 0, slots := 0, locals := 0 }
set_option maxHeartbeats 4000000 in
set_option maxRecDepth 100000 in
theorem ctX0_howMany {l : Launch} {g : GX} {N : Nat} {ln : Nat → Nat} {S : HC} {a0 : Nat} {a1 : Int32} {post : Int32 → HC → Prop} (hr_a0 : a0 < N) (hk_a0 : kd a0 = 0) (h : wpX0_howMany ln S a0 a1 post) : Met l yX0_howMany (Cond.code yX0_howMany prog_2_method_11_code 4 (Option.some Jvm.ClassFile.FieldType.int) :: gtbl) rmX0_howMany (va_Pc [.ref (gz g + a0), .int a1] (AtP g N ln S)) (QI g N ln post) 0 0 (gF g) := by
  refine m_of (by decide) (Nat.le_of_ble_eq_true rfl) ?_
  intro p e s m below meth c ls F hr I hl
  have hl : lv_has ls 4 [(0, .ref (gz g + a0)), (1, .int a1)] := hl
  unfold wpX0_howMany at h
  have hl_4 : ∀ n4 : Nat, ∀ (S : HC) (H : Heap) (locs : List Loc) (ls : Array Slot) (x0 : Nat) (x1 : Int32) (x2 : Int32) (x3 : Int32), x0 < N → kd x0 = 0 → LX0_howMany_4 ln post n4 S x0 x1 x2 x3 → Inv g N ln S s H locs → lv_has ls 4 [(0, .ref (gz g + x0)), (1, .int x1), (2, .int x2), (3, .int x3)] → W p l e rmX0_howMany s m ([.ref (gz g + a0), .int a1] : List Value).toArray below meth c H locs 0 0 (MQ below (QI g N ln post) ([.ref (gz g + a0), .int a1] : List Value).toArray s 0 0 (gF g)) (F0 m 4 ls []) := by
    intro n4
    induction n4 with
    | zero =>
      intro S H locs ls x0 x1 x2 x3 hr_x0 hk_x0 h I hl
      exact h.elim
    | succ n4 ih =>
      have hk4 := ih
      have hj_25 : ∀ (S : HC) (H : Heap) (locs : List Loc) (ls : Array Slot) (x0 : Nat) (x1 : Int32) (x2 : Int32) (x3 : Int32), x0 < N → kd x0 = 0 → BX0_howMany_25 ln post (LX0_howMany_4 ln post n4) S x0 x1 x2 x3 → Inv g N ln S s H locs → lv_has ls 4 [(0, .ref (gz g + x0)), (1, .int x1), (2, .int x2), (3, .int x3)] → W p l e rmX0_howMany s m ([.ref (gz g + a0), .int a1] : List Value).toArray below meth c H locs 0 0 (MQ below (QI g N ln post) ([.ref (gz g + a0), .int a1] : List Value).toArray s 0 0 (gF g)) (F0 m 25 ls []) := by
        intro S H locs ls x0 x1 x2 x3 hr_x0 hk_x0 h I hl
        unfold BX0_howMany_25 at h
        obtain ⟨z1, e_z1, h⟩ := lt_x h
        refine lv_iinc (v := z1) (lv' := [(3, .int z1), (0, .ref (gz g + x0)), (1, .int x1), (2, .int x2)]) F.1 F.2.1 dX0_howMany_25 hl (k := 3) rfl (by rw [e_z1]; rfl) (by decide) rfl (fun ls hl => ?_)
        refine lv_goto (tgt := 4) F.1 F.2.1 dX0_howMany_28 (by decide) ?_
        exact hk4 S _ _ _ x0 x1 x2 z1 hr_x0 hk_x0 h I (lv_sub hl [1, 2, 3, 0] rfl)
      intro S H locs ls x0 x1 x2 x3 hr_x0 hk_x0 h I hl
      rw [LX0_howMany_4] at h
      refine lv_iload_n F.1 F.2.1 dX0_howMany_4 rfl (lv_at hl 3 rfl) ?_
      refine lv_aload_n F.1 F.2.1 dX0_howMany_5 rfl (lv_at hl 0 rfl) ?_
      refine r_getI F I hr_x0 hk_x0 fX0_30 rfl dX0_howMany_6 h (fun z2 h => ?_)
      refine r_icmp_ge (tgt := 31) F dX0_howMany_9 (by decide) h (fun h => ?_) (fun h => ?_)
      · refine lv_iload_n F.1 F.2.1 dX0_howMany_31 rfl (lv_at hl 2 rfl) ?_
        exact r_ireturn F I ⟨hr.1, hr.2.1, trivial⟩ h dX0_howMany_32
      · refine lv_aload_n F.1 F.2.1 dX0_howMany_12 rfl (lv_at hl 0 rfl) ?_
        refine r_getN F I hr_x0 hk_x0 fX0_21 (f := 9) rfl (by decide) dX0_howMany_13 h (fun b3 hr_b3 hk_b3 h => ?_)
        refine lv_iload_n F.1 F.2.1 dX0_howMany_16 rfl (lv_at hl 3 rfl) ?_
        refine r_ald F I hr_b3 hk_b3 dX0_howMany_17 h (fun z4 h => ?_)
        refine lv_iload_n F.1 F.2.1 dX0_howMany_18 rfl (lv_at hl 1 rfl) ?_
        refine r_icmp_ne (tgt := 25) F dX0_howMany_19 (by decide) h (fun h => ?_) (fun h => ?_)
        · exact hj_25 S _ _ _ x0 x1 x2 x3 hr_x0 hk_x0 h I (lv_sub hl [0, 1, 2, 3] rfl)
        · obtain ⟨z5, e_z5, h⟩ := lt_x h
          refine lv_iinc (v := z5) (lv' := [(2, .int z5), (0, .ref (gz g + x0)), (1, .int x1), (3, .int x3)]) F.1 F.2.1 dX0_howMany_22 hl (k := 2) rfl (by rw [e_z5]; rfl) (by decide) rfl (fun ls hl => ?_)
          exact hj_25 S _ _ _ x0 x1 z5 x3 hr_x0 hk_x0 h I (lv_sub hl [1, 2, 0, 3] rfl)
  refine lv_iconst (v := 0) F.1 F.2.1 dX0_howMany_0 (by decide) ?_
  refine lv_istore_n (lv' := [(2, .int (0 : Int32)), (0, .ref (gz g + a0)), (1, .int a1)]) F.1 F.2.1 dX0_howMany_1 rfl hl (by decide) rfl (fun ls hl => ?_)
  refine lv_iconst (v := 0) F.1 F.2.1 dX0_howMany_2 (by decide) ?_
  refine lv_istore_n (lv' := [(3, .int (0 : Int32)), (2, .int (0 : Int32)), (0, .ref (gz g + a0)), (1, .int a1)]) F.1 F.2.1 dX0_howMany_3 rfl hl (by decide) rfl (fun ls hl => ?_)
  obtain ⟨n4, h⟩ := h
  exact hl_4 n4 S _ _ _ a0 a1 (0 : Int32) (0 : Int32) hr_a0 hk_a0 h I (lv_sub hl [2, 3, 1, 0] rfl)
theorem bdX0_nthOf_0 : ∀ q ∈ ([(0, .iload_n 2, 1), (1, .istore_n 3, 1), (2, .iconst 0, 1), (3, .istore 4, 2), (5, .iload 4, 2), (7, .aload_n 0, 1), (8, .getfield 30, 3), (11, .if_icmp .ge 30, 3), (14, .aload_n 0, 1), (15, .getfield 21, 3), (18, .iload 4, 2), (20, .iaload, 1), (21, .iload_n 1, 1), (22, .if_icmp .ne 13, 3), (25, .iload_n 3, 1), (26, .ifCond .ne 6, 3), (29, .iload 4, 2), (31, .ireturn, 1), (32, .iinc 3 (-1), 3), (35, .iinc 4 1, 3), (38, .goto (-33), 3), (41, .iconst (-1), 1), (42, .ireturn, 1)] : List (Nat × Jvm.ClassFile.Instr × Nat)), decode cX0_nthOf q.1 = .ok q.2 := chk_ok _ 0 _ rfl (by decide +kernel)
theorem dX0_nthOf_0 : decode cX0_nthOf 0 = .ok (.iload_n 2, 1) := bdX0_nthOf_0 (0, .iload_n 2, 1) (List.mem_of_getElem? (i := 0) rfl)
theorem dX0_nthOf_1 : decode cX0_nthOf 1 = .ok (.istore_n 3, 1) := bdX0_nthOf_0 (1, .istore_n 3, 1) (List.mem_of_getElem? (i := 1) rfl)
theorem dX0_nthOf_2 : decode cX0_nthOf 2 = .ok (.iconst 0, 1) := bdX0_nthOf_0 (2, .iconst 0, 1) (List.mem_of_getElem? (i := 2) rfl)
theorem dX0_nthOf_3 : decode cX0_nthOf 3 = .ok (.istore 4, 2) := bdX0_nthOf_0 (3, .istore 4, 2) (List.mem_of_getElem? (i := 3) rfl)
theorem dX0_nthOf_5 : decode cX0_nthOf 5 = .ok (.iload 4, 2) := bdX0_nthOf_0 (5, .iload 4, 2) (List.mem_of_getElem? (i := 4) rfl)
theorem dX0_nthOf_7 : decode cX0_nthOf 7 = .ok (.aload_n 0, 1) := bdX0_nthOf_0 (7, .aload_n 0, 1) (List.mem_of_getElem? (i := 5) rfl)
theorem dX0_nthOf_8 : decode cX0_nthOf 8 = .ok (.getfield 30, 3) := bdX0_nthOf_0 (8, .getfield 30, 3) (List.mem_of_getElem? (i := 6) rfl)
theorem dX0_nthOf_11 : decode cX0_nthOf 11 = .ok (.if_icmp .ge 30, 3) := bdX0_nthOf_0 (11, .if_icmp .ge 30, 3) (List.mem_of_getElem? (i := 7) rfl)
theorem dX0_nthOf_14 : decode cX0_nthOf 14 = .ok (.aload_n 0, 1) := bdX0_nthOf_0 (14, .aload_n 0, 1) (List.mem_of_getElem? (i := 8) rfl)
theorem dX0_nthOf_15 : decode cX0_nthOf 15 = .ok (.getfield 21, 3) := bdX0_nthOf_0 (15, .getfield 21, 3) (List.mem_of_getElem? (i := 9) rfl)
theorem dX0_nthOf_18 : decode cX0_nthOf 18 = .ok (.iload 4, 2) := bdX0_nthOf_0 (18, .iload 4, 2) (List.mem_of_getElem? (i := 10) rfl)
theorem dX0_nthOf_20 : decode cX0_nthOf 20 = .ok (.iaload, 1) := bdX0_nthOf_0 (20, .iaload, 1) (List.mem_of_getElem? (i := 11) rfl)
theorem dX0_nthOf_21 : decode cX0_nthOf 21 = .ok (.iload_n 1, 1) := bdX0_nthOf_0 (21, .iload_n 1, 1) (List.mem_of_getElem? (i := 12) rfl)
theorem dX0_nthOf_22 : decode cX0_nthOf 22 = .ok (.if_icmp .ne 13, 3) := bdX0_nthOf_0 (22, .if_icmp .ne 13, 3) (List.mem_of_getElem? (i := 13) rfl)
theorem dX0_nthOf_25 : decode cX0_nthOf 25 = .ok (.iload_n 3, 1) := bdX0_nthOf_0 (25, .iload_n 3, 1) (List.mem_of_getElem? (i := 14) rfl)
theorem dX0_nthOf_26 : decode cX0_nthOf 26 = .ok (.ifCond .ne 6, 3) := bdX0_nthOf_0 (26, .ifCond .ne 6, 3) (List.mem_of_getElem? (i := 15) rfl)
theorem dX0_nthOf_29 : decode cX0_nthOf 29 = .ok (.iload 4, 2) := bdX0_nthOf_0 (29, .iload 4, 2) (List.mem_of_getElem? (i := 16) rfl)
theorem dX0_nthOf_31 : decode cX0_nthOf 31 = .ok (.ireturn, 1) := bdX0_nthOf_0 (31, .ireturn, 1) (List.mem_of_getElem? (i := 17) rfl)
theorem dX0_nthOf_32 : decode cX0_nthOf 32 = .ok (.iinc 3 (-1), 3) := bdX0_nthOf_0 (32, .iinc 3 (-1), 3) (List.mem_of_getElem? (i := 18) rfl)
theorem dX0_nthOf_35 : decode cX0_nthOf 35 = .ok (.iinc 4 1, 3) := bdX0_nthOf_0 (35, .iinc 4 1, 3) (List.mem_of_getElem? (i := 19) rfl)
theorem dX0_nthOf_38 : decode cX0_nthOf 38 = .ok (.goto (-33), 3) := bdX0_nthOf_0 (38, .goto (-33), 3) (List.mem_of_getElem? (i := 20) rfl)
theorem dX0_nthOf_41 : decode cX0_nthOf 41 = .ok (.iconst (-1), 1) := bdX0_nthOf_0 (41, .iconst (-1), 1) (List.mem_of_getElem? (i := 21) rfl)
theorem dX0_nthOf_42 : decode cX0_nthOf 42 = .ok (.ireturn, 1) := bdX0_nthOf_0 (42, .ireturn, 1) (List.mem_of_getElem? (i := 22) rfl)
def BX0_nthOf_35 (ln : Nat → Nat) (post : Int32 → HC → Prop) (K5 : HC → Nat → Int32 → Int32 → Int32 → Prop) (S : HC) (x0 : Nat) (x1 : Int32) (x3 : Int32) (x4 : Int32) : Prop := lt_ (x4 + (1 : Int32)) fun z1 => K5 S x0 x1 x3 z1
def LX0_nthOf_5 (ln : Nat → Nat) (post : Int32 → HC → Prop) : Nat → HC → Nat → Int32 → Int32 → Int32 → Prop
  | 0 => fun _ _ _ _ _ => False
  | n5 + 1 => fun S x0 x1 x3 x4 => lt_ (hI S x0 6) fun z2 => if z2 ≤ x4 then (post (-1 : Int32) S) else (dn_ (hR S x0 3) fun b3 => al_ (ln b3) x4 (hI S b3) fun z4 => if z4 = x1 then (if x3 = 0 then (post x4 S) else (lt_ (x3 + (-1 : Int32)) fun z5 => BX0_nthOf_35 ln post (LX0_nthOf_5 ln post n5) S x0 x1 z5 x4)) else (BX0_nthOf_35 ln post (LX0_nthOf_5 ln post n5) S x0 x1 x3 x4))
def wpX0_nthOf (ln : Nat → Nat) (S : HC) (a0 : Nat) (a1 : Int32) (a2 : Int32) (post : Int32 → HC → Prop) : Prop := ∃ n5, LX0_nthOf_5 ln post n5 S a0 a1 a2 (0 : Int32)
abbrev rmX0_nthOf : Room := { frames := 0, cells := 0, slots := 0, locals := 0 }
set_option maxHeartbeats 4000000 in
set_option maxRecDepth 100000 in
theorem ctX0_nthOf {l : Launch} {g : GX} {N : Nat} {ln : Nat → Nat} {S : HC} {a0 : Nat} {a1 : Int32} {a2 : Int32} {post : Int32 → HC → Prop} (hr_a0 : a0 < N) (hk_a0 : kd a0 = 0) (h : wpX0_nthOf ln S a0 a1 a2 post) : Met l yX0_nthOf (Cond.code yX0_nthOf prog_2_method_12_code 5 (Option.some Jvm.ClassFile.FieldType.int) :: gtbl) rmX0_nthOf (va_Pc [.ref (gz g + a0), .int a1, .int a2] (AtP g N ln S)) (QI g N ln post) 0 0 (gF g) := by
  refine m_of (by decide) (Nat.le_of_ble_eq_true rfl) ?_
  intro p e s m below meth c ls F hr I hl
  have hl : lv_has ls 5 [(0, .ref (gz g + a0)), (1, .int a1), (2, .int a2)] := hl
  unfold wpX0_nthOf at h
  have hl_5 : ∀ n5 : Nat, ∀ (S : HC) (H : Heap) (locs : List Loc) (ls : Array Slot) (x0 : Nat) (x1 : Int32) (x3 : Int32) (x4 : Int32), x0 < N → kd x0 = 0 → LX0_nthOf_5 ln post n5 S x0 x1 x3 x4 → Inv g N ln S s H locs → lv_has ls 5 [(0, .ref (gz g + x0)), (1, .int x1), (3, .int x3), (4, .int x4)] → W p l e rmX0_nthOf s m ([.ref (gz g + a0), .int a1, .int a2] : List Value).toArray below meth c H locs 0 0 (MQ below (QI g N ln post) ([.ref (gz g + a0), .int a1, .int a2] : List Value).toArray s 0 0 (gF g)) (F0 m 5 ls []) := by
    intro n5
    induction n5 with
    | zero =>
      intro S H locs ls x0 x1 x3 x4 hr_x0 hk_x0 h I hl
      exact h.elim
    | succ n5 ih =>
      have hk5 := ih
      have hj_35 : ∀ (S : HC) (H : Heap) (locs : List Loc) (ls : Array Slot) (x0 : Nat) (x1 : Int32) (x3 : Int32) (x4 : Int32), x0 < N → kd x0 = 0 → BX0_nthOf_35 ln post (LX0_nthOf_5 ln post n5) S x0 x1 x3 x4 → Inv g N ln S s H locs → lv_has ls 5 [(0, .ref (gz g + x0)), (1, .int x1), (3, .int x3), (4, .int x4)] → W p l e rmX0_nthOf s m ([.ref (gz g + a0), .int a1, .int a2] : List Value).toArray below meth c H locs 0 0 (MQ below (QI g N ln post) ([.ref (gz g + a0), .int a1, .int a2] : List Value).toArray s 0 0 (gF g)) (F0 m 35 ls []) := by
        intro S H locs ls x0 x1 x3 x4 hr_x0 hk_x0 h I hl
        unfold BX0_nthOf_35 at h
        obtain ⟨z1, e_z1, h⟩ := lt_x h
        refine lv_iinc (v := z1) (lv' := [(4, .int z1), (0, .ref (gz g + x0)), (1, .int x1), (3, .int x3)]) F.1 F.2.1 dX0_nthOf_35 hl (k := 3) rfl (by rw [e_z1]; rfl) (by decide) rfl (fun ls hl => ?_)
        refine lv_goto (tgt := 5) F.1 F.2.1 dX0_nthOf_38 (by decide) ?_
        exact hk5 S _ _ _ x0 x1 x3 z1 hr_x0 hk_x0 h I (lv_sub hl [1, 2, 3, 0] rfl)
      intro S H locs ls x0 x1 x3 x4 hr_x0 hk_x0 h I hl
      rw [LX0_nthOf_5] at h
      refine lv_iload F.1 F.2.1 dX0_nthOf_5 (lv_at hl 3 rfl) ?_
      refine lv_aload_n F.1 F.2.1 dX0_nthOf_7 rfl (lv_at hl 0 rfl) ?_
      refine r_getI F I hr_x0 hk_x0 fX0_30 rfl dX0_nthOf_8 h (fun z2 h => ?_)
      refine r_icmp_ge (tgt := 41) F dX0_nthOf_11 (by decide) h (fun h => ?_) (fun h => ?_)
      · refine lv_iconst (v := -1) F.1 F.2.1 dX0_nthOf_41 (by decide) ?_
        exact r_ireturn F I ⟨hr.1, hr.2.1, trivial⟩ h dX0_nthOf_42
      · refine lv_aload_n F.1 F.2.1 dX0_nthOf_14 rfl (lv_at hl 0 rfl) ?_
        refine r_getN F I hr_x0 hk_x0 fX0_21 (f := 9) rfl (by decide) dX0_nthOf_15 h (fun b3 hr_b3 hk_b3 h => ?_)
        refine lv_iload F.1 F.2.1 dX0_nthOf_18 (lv_at hl 3 rfl) ?_
        refine r_ald F I hr_b3 hk_b3 dX0_nthOf_20 h (fun z4 h => ?_)
        refine lv_iload_n F.1 F.2.1 dX0_nthOf_21 rfl (lv_at hl 1 rfl) ?_
        refine r_icmp_ne (tgt := 35) F dX0_nthOf_22 (by decide) h (fun h => ?_) (fun h => ?_)
        · exact hj_35 S _ _ _ x0 x1 x3 x4 hr_x0 hk_x0 h I (lv_sub hl [0, 1, 2, 3] rfl)
        · refine lv_iload_n F.1 F.2.1 dX0_nthOf_25 rfl (lv_at hl 2 rfl) ?_
          refine r_if_ne (tgt := 32) F dX0_nthOf_26 (by decide) h (fun h => ?_) (fun h => ?_)
          · obtain ⟨z5, e_z5, h⟩ := lt_x h
            refine lv_iinc (v := z5) (lv' := [(3, .int z5), (0, .ref (gz g + x0)), (1, .int x1), (4, .int x4)]) F.1 F.2.1 dX0_nthOf_32 hl (k := 2) rfl (by rw [e_z5]; rfl) (by decide) rfl (fun ls hl => ?_)
            exact hj_35 S _ _ _ x0 x1 z5 x4 hr_x0 hk_x0 h I (lv_sub hl [1, 2, 0, 3] rfl)
          · refine lv_iload F.1 F.2.1 dX0_nthOf_29 (lv_at hl 3 rfl) ?_
            exact r_ireturn F I ⟨hr.1, hr.2.1, trivial⟩ h dX0_nthOf_31
  refine lv_iload_n F.1 F.2.1 dX0_nthOf_0 rfl (lv_at hl 2 rfl) ?_
  refine lv_istore_n (lv' := [(3, .int a2), (0, .ref (gz g + a0)), (1, .int a1), (2, .int a2)]) F.1 F.2.1 dX0_nthOf_1 rfl hl (by decide) rfl (fun ls hl => ?_)
  refine lv_iconst (v := 0) F.1 F.2.1 dX0_nthOf_2 (by decide) ?_
  refine lv_istore (lv' := [(4, .int (0 : Int32)), (3, .int a2), (0, .ref (gz g + a0)), (1, .int a1), (2, .int a2)]) F.1 F.2.1 dX0_nthOf_3 hl (by decide) rfl (fun ls hl => ?_)
  obtain ⟨n5, h⟩ := h
  exact hl_5 n5 S _ _ _ a0 a1 a2 (0 : Int32) hr_a0 hk_a0 h I (lv_sub hl [2, 3, 1, 0] rfl)
theorem bdX0_bringForth_0 : ∀ q ∈ ([(0, .aload_n 0, 1), (1, .iconst 0, 1), (2, .invokevirtual 73, 3), (5, .istore_n 1, 1), (6, .aload_n 0, 1), (7, .iconst 1, 1), (8, .invokevirtual 73, 3), (11, .istore_n 2, 1), (12, .iload_n 1, 1), (13, .iconst 1, 1), (14, .if_icmp .lt 8, 3), (17, .iload_n 2, 1), (18, .iconst 1, 1), (19, .if_icmp .ge 5, 3), (22, .iconst 0, 1), (23, .ireturn, 1), (24, .aload_n 0, 1), (25, .iconst 0, 1), (26, .aload_n 0, 1), (27, .invokevirtual 62, 3), (30, .iload_n 1, 1), (31, .irem, 1), (32, .invokevirtual 77, 3), (35, .istore_n 3, 1), (36, .aload_n 0, 1), (37, .iconst 1, 1), (38, .aload_n 0, 1), (39, .invokevirtual 62, 3), (42, .iload_n 2, 1), (43, .irem, 1), (44, .invokevirtual 77, 3), (47, .istore 4, 2), (49, .aload_n 0, 1), (50, .invokevirtual 62, 3), (53, .iconst 2, 1), (54, .irem, 1), (55, .istore 5, 2), (57, .aload_n 0, 1), (58, .invokevirtual 62, 3), (61, .bipush 6, 2)] : List (Nat × Jvm.ClassFile.Instr × Nat)), decode cX0_bringForth q.1 = .ok q.2 := chk_ok _ 0 _ rfl (by decide +kernel)
theorem dX0_bringForth_0 : decode cX0_bringForth 0 = .ok (.aload_n 0, 1) := bdX0_bringForth_0 (0, .aload_n 0, 1) (List.mem_of_getElem? (i := 0) rfl)
theorem dX0_bringForth_1 : decode cX0_bringForth 1 = .ok (.iconst 0, 1) := bdX0_bringForth_0 (1, .iconst 0, 1) (List.mem_of_getElem? (i := 1) rfl)
theorem dX0_bringForth_2 : decode cX0_bringForth 2 = .ok (.invokevirtual 73, 3) := bdX0_bringForth_0 (2, .invokevirtual 73, 3) (List.mem_of_getElem? (i := 2) rfl)
theorem dX0_bringForth_5 : decode cX0_bringForth 5 = .ok (.istore_n 1, 1) := bdX0_bringForth_0 (5, .istore_n 1, 1) (List.mem_of_getElem? (i := 3) rfl)
theorem dX0_bringForth_6 : decode cX0_bringForth 6 = .ok (.aload_n 0, 1) := bdX0_bringForth_0 (6, .aload_n 0, 1) (List.mem_of_getElem? (i := 4) rfl)
theorem dX0_bringForth_7 : decode cX0_bringForth 7 = .ok (.iconst 1, 1) := bdX0_bringForth_0 (7, .iconst 1, 1) (List.mem_of_getElem? (i := 5) rfl)
theorem dX0_bringForth_8 : decode cX0_bringForth 8 = .ok (.invokevirtual 73, 3) := bdX0_bringForth_0 (8, .invokevirtual 73, 3) (List.mem_of_getElem? (i := 6) rfl)
theorem dX0_bringForth_11 : decode cX0_bringForth 11 = .ok (.istore_n 2, 1) := bdX0_bringForth_0 (11, .istore_n 2, 1) (List.mem_of_getElem? (i := 7) rfl)
theorem dX0_bringForth_12 : decode cX0_bringForth 12 = .ok (.iload_n 1, 1) := bdX0_bringForth_0 (12, .iload_n 1, 1) (List.mem_of_getElem? (i := 8) rfl)
theorem dX0_bringForth_13 : decode cX0_bringForth 13 = .ok (.iconst 1, 1) := bdX0_bringForth_0 (13, .iconst 1, 1) (List.mem_of_getElem? (i := 9) rfl)
theorem dX0_bringForth_14 : decode cX0_bringForth 14 = .ok (.if_icmp .lt 8, 3) := bdX0_bringForth_0 (14, .if_icmp .lt 8, 3) (List.mem_of_getElem? (i := 10) rfl)
theorem dX0_bringForth_17 : decode cX0_bringForth 17 = .ok (.iload_n 2, 1) := bdX0_bringForth_0 (17, .iload_n 2, 1) (List.mem_of_getElem? (i := 11) rfl)
theorem dX0_bringForth_18 : decode cX0_bringForth 18 = .ok (.iconst 1, 1) := bdX0_bringForth_0 (18, .iconst 1, 1) (List.mem_of_getElem? (i := 12) rfl)
theorem dX0_bringForth_19 : decode cX0_bringForth 19 = .ok (.if_icmp .ge 5, 3) := bdX0_bringForth_0 (19, .if_icmp .ge 5, 3) (List.mem_of_getElem? (i := 13) rfl)
theorem dX0_bringForth_22 : decode cX0_bringForth 22 = .ok (.iconst 0, 1) := bdX0_bringForth_0 (22, .iconst 0, 1) (List.mem_of_getElem? (i := 14) rfl)
theorem dX0_bringForth_23 : decode cX0_bringForth 23 = .ok (.ireturn, 1) := bdX0_bringForth_0 (23, .ireturn, 1) (List.mem_of_getElem? (i := 15) rfl)
theorem dX0_bringForth_24 : decode cX0_bringForth 24 = .ok (.aload_n 0, 1) := bdX0_bringForth_0 (24, .aload_n 0, 1) (List.mem_of_getElem? (i := 16) rfl)
theorem dX0_bringForth_25 : decode cX0_bringForth 25 = .ok (.iconst 0, 1) := bdX0_bringForth_0 (25, .iconst 0, 1) (List.mem_of_getElem? (i := 17) rfl)
theorem dX0_bringForth_26 : decode cX0_bringForth 26 = .ok (.aload_n 0, 1) := bdX0_bringForth_0 (26, .aload_n 0, 1) (List.mem_of_getElem? (i := 18) rfl)
theorem dX0_bringForth_27 : decode cX0_bringForth 27 = .ok (.invokevirtual 62, 3) := bdX0_bringForth_0 (27, .invokevirtual 62, 3) (List.mem_of_getElem? (i := 19) rfl)
theorem dX0_bringForth_30 : decode cX0_bringForth 30 = .ok (.iload_n 1, 1) := bdX0_bringForth_0 (30, .iload_n 1, 1) (List.mem_of_getElem? (i := 20) rfl)
theorem dX0_bringForth_31 : decode cX0_bringForth 31 = .ok (.irem, 1) := bdX0_bringForth_0 (31, .irem, 1) (List.mem_of_getElem? (i := 21) rfl)
theorem dX0_bringForth_32 : decode cX0_bringForth 32 = .ok (.invokevirtual 77, 3) := bdX0_bringForth_0 (32, .invokevirtual 77, 3) (List.mem_of_getElem? (i := 22) rfl)
theorem dX0_bringForth_35 : decode cX0_bringForth 35 = .ok (.istore_n 3, 1) := bdX0_bringForth_0 (35, .istore_n 3, 1) (List.mem_of_getElem? (i := 23) rfl)
theorem dX0_bringForth_36 : decode cX0_bringForth 36 = .ok (.aload_n 0, 1) := bdX0_bringForth_0 (36, .aload_n 0, 1) (List.mem_of_getElem? (i := 24) rfl)
theorem dX0_bringForth_37 : decode cX0_bringForth 37 = .ok (.iconst 1, 1) := bdX0_bringForth_0 (37, .iconst 1, 1) (List.mem_of_getElem? (i := 25) rfl)
theorem dX0_bringForth_38 : decode cX0_bringForth 38 = .ok (.aload_n 0, 1) := bdX0_bringForth_0 (38, .aload_n 0, 1) (List.mem_of_getElem? (i := 26) rfl)
theorem dX0_bringForth_39 : decode cX0_bringForth 39 = .ok (.invokevirtual 62, 3) := bdX0_bringForth_0 (39, .invokevirtual 62, 3) (List.mem_of_getElem? (i := 27) rfl)
theorem dX0_bringForth_42 : decode cX0_bringForth 42 = .ok (.iload_n 2, 1) := bdX0_bringForth_0 (42, .iload_n 2, 1) (List.mem_of_getElem? (i := 28) rfl)
theorem dX0_bringForth_43 : decode cX0_bringForth 43 = .ok (.irem, 1) := bdX0_bringForth_0 (43, .irem, 1) (List.mem_of_getElem? (i := 29) rfl)
theorem dX0_bringForth_44 : decode cX0_bringForth 44 = .ok (.invokevirtual 77, 3) := bdX0_bringForth_0 (44, .invokevirtual 77, 3) (List.mem_of_getElem? (i := 30) rfl)
theorem dX0_bringForth_47 : decode cX0_bringForth 47 = .ok (.istore 4, 2) := bdX0_bringForth_0 (47, .istore 4, 2) (List.mem_of_getElem? (i := 31) rfl)
theorem dX0_bringForth_49 : decode cX0_bringForth 49 = .ok (.aload_n 0, 1) := bdX0_bringForth_0 (49, .aload_n 0, 1) (List.mem_of_getElem? (i := 32) rfl)
theorem dX0_bringForth_50 : decode cX0_bringForth 50 = .ok (.invokevirtual 62, 3) := bdX0_bringForth_0 (50, .invokevirtual 62, 3) (List.mem_of_getElem? (i := 33) rfl)
theorem dX0_bringForth_53 : decode cX0_bringForth 53 = .ok (.iconst 2, 1) := bdX0_bringForth_0 (53, .iconst 2, 1) (List.mem_of_getElem? (i := 34) rfl)
theorem dX0_bringForth_54 : decode cX0_bringForth 54 = .ok (.irem, 1) := bdX0_bringForth_0 (54, .irem, 1) (List.mem_of_getElem? (i := 35) rfl)
theorem dX0_bringForth_55 : decode cX0_bringForth 55 = .ok (.istore 5, 2) := bdX0_bringForth_0 (55, .istore 5, 2) (List.mem_of_getElem? (i := 36) rfl)
theorem dX0_bringForth_57 : decode cX0_bringForth 57 = .ok (.aload_n 0, 1) := bdX0_bringForth_0 (57, .aload_n 0, 1) (List.mem_of_getElem? (i := 37) rfl)
theorem dX0_bringForth_58 : decode cX0_bringForth 58 = .ok (.invokevirtual 62, 3) := bdX0_bringForth_0 (58, .invokevirtual 62, 3) (List.mem_of_getElem? (i := 38) rfl)
theorem dX0_bringForth_61 : decode cX0_bringForth 61 = .ok (.bipush 6, 2) := bdX0_bringForth_0 (61, .bipush 6, 2) (List.mem_of_getElem? (i := 39) rfl)
theorem bdX0_bringForth_63 : ∀ q ∈ ([(63, .irem, 1), (64, .istore 6, 2), (66, .aload_n 0, 1), (67, .iload 6, 2), (69, .iload_n 3, 1), (70, .iload 4, 2), (72, .iload 5, 2), (74, .aload_n 0, 1), (75, .invokevirtual 62, 3), (78, .bipush 8, 2), (80, .irem, 1), (81, .invokevirtual 66, 3), (84, .pop, 1), (85, .iconst 1, 1), (86, .ireturn, 1)] : List (Nat × Jvm.ClassFile.Instr × Nat)), decode cX0_bringForth q.1 = .ok q.2 := chk_ok _ 63 _ rfl (by decide +kernel)
theorem dX0_bringForth_63 : decode cX0_bringForth 63 = .ok (.irem, 1) := bdX0_bringForth_63 (63, .irem, 1) (List.mem_of_getElem? (i := 0) rfl)
theorem dX0_bringForth_64 : decode cX0_bringForth 64 = .ok (.istore 6, 2) := bdX0_bringForth_63 (64, .istore 6, 2) (List.mem_of_getElem? (i := 1) rfl)
theorem dX0_bringForth_66 : decode cX0_bringForth 66 = .ok (.aload_n 0, 1) := bdX0_bringForth_63 (66, .aload_n 0, 1) (List.mem_of_getElem? (i := 2) rfl)
theorem dX0_bringForth_67 : decode cX0_bringForth 67 = .ok (.iload 6, 2) := bdX0_bringForth_63 (67, .iload 6, 2) (List.mem_of_getElem? (i := 3) rfl)
theorem dX0_bringForth_69 : decode cX0_bringForth 69 = .ok (.iload_n 3, 1) := bdX0_bringForth_63 (69, .iload_n 3, 1) (List.mem_of_getElem? (i := 4) rfl)
theorem dX0_bringForth_70 : decode cX0_bringForth 70 = .ok (.iload 4, 2) := bdX0_bringForth_63 (70, .iload 4, 2) (List.mem_of_getElem? (i := 5) rfl)
theorem dX0_bringForth_72 : decode cX0_bringForth 72 = .ok (.iload 5, 2) := bdX0_bringForth_63 (72, .iload 5, 2) (List.mem_of_getElem? (i := 6) rfl)
theorem dX0_bringForth_74 : decode cX0_bringForth 74 = .ok (.aload_n 0, 1) := bdX0_bringForth_63 (74, .aload_n 0, 1) (List.mem_of_getElem? (i := 7) rfl)
theorem dX0_bringForth_75 : decode cX0_bringForth 75 = .ok (.invokevirtual 62, 3) := bdX0_bringForth_63 (75, .invokevirtual 62, 3) (List.mem_of_getElem? (i := 8) rfl)
theorem dX0_bringForth_78 : decode cX0_bringForth 78 = .ok (.bipush 8, 2) := bdX0_bringForth_63 (78, .bipush 8, 2) (List.mem_of_getElem? (i := 9) rfl)
theorem dX0_bringForth_80 : decode cX0_bringForth 80 = .ok (.irem, 1) := bdX0_bringForth_63 (80, .irem, 1) (List.mem_of_getElem? (i := 10) rfl)
theorem dX0_bringForth_81 : decode cX0_bringForth 81 = .ok (.invokevirtual 66, 3) := bdX0_bringForth_63 (81, .invokevirtual 66, 3) (List.mem_of_getElem? (i := 11) rfl)
theorem dX0_bringForth_84 : decode cX0_bringForth 84 = .ok (.pop, 1) := bdX0_bringForth_63 (84, .pop, 1) (List.mem_of_getElem? (i := 12) rfl)
theorem dX0_bringForth_85 : decode cX0_bringForth 85 = .ok (.iconst 1, 1) := bdX0_bringForth_63 (85, .iconst 1, 1) (List.mem_of_getElem? (i := 13) rfl)
theorem dX0_bringForth_86 : decode cX0_bringForth 86 = .ok (.ireturn, 1) := bdX0_bringForth_63 (86, .ireturn, 1) (List.mem_of_getElem? (i := 14) rfl)
theorem kX0_73 : mthV RX0 73 0 yX0_howMany prog_2_method_11_code 4 (Option.some Jvm.ClassFile.FieldType.int) 1 := ⟨⟨⟨tw_481, tw_61, tw_484⟩, rfl, by decide +kernel⟩, tw_482, tw_483, rfl⟩
theorem kX0_77 : mthV RX0 77 0 yX0_nthOf prog_2_method_12_code 5 (Option.some Jvm.ClassFile.FieldType.int) 2 := ⟨⟨⟨tw_485, tw_61, tw_488⟩, rfl, by decide +kernel⟩, tw_487, tw_4, rfl⟩
def BX0_bringForth_22 (ln : Nat → Nat) (post : Int32 → HC → Prop) (S : HC)  : Prop := rb_ .boolean (0 : Int32) (post (0 : Int32) S)
def wpX0_bringForth (ln : Nat → Nat) (S : HC) (a0 : Nat) (post : Int32 → HC → Prop) : Prop := wpX0_howMany ln S a0 (0 : Int32) fun z1 S => wpX0_howMany ln S a0 (1 : Int32) fun z2 S => if z1 < (1 : Int32) then (BX0_bringForth_22 ln post S) else (if (1 : Int32) ≤ z2 then (wpX0_draw ln S a0 fun z3 S => ne_ z1 <| lt_ (z3 - z3 / z1 * z1) fun z4 => wpX0_nthOf ln S a0 (0 : Int32) z4 fun z5 S => wpX0_draw ln S a0 fun z6 S => ne_ z2 <| lt_ (z6 - z6 / z2 * z2) fun z7 => wpX0_nthOf ln S a0 (1 : Int32) z7 fun z8 S => wpX0_draw ln S a0 fun z9 S => ne_ (2 : Int32) <| lt_ (z9 - z9 / (2 : Int32) * (2 : Int32)) fun z10 => wpX0_draw ln S a0 fun z11 S => ne_ (6 : Int32) <| lt_ (z11 - z11 / (6 : Int32) * (6 : Int32)) fun z12 => wpX0_draw ln S a0 fun z13 S => ne_ (8 : Int32) <| lt_ (z13 - z13 / (8 : Int32) * (8 : Int32)) fun z14 => wpX0_add ln S a0 z12 z5 z8 z10 z14 fun z15 S => rb_ .boolean (1 : Int32) (post (1 : Int32) S)) else (BX0_bringForth_22 ln post S))
abbrev rmX0_bringForth : Room := { frames := 2, cells := 0, slots := 0, locals := 46 }
set_option maxHeartbeats 4000000 in
set_option maxRecDepth 100000 in
theorem ctX0_bringForth {l : Launch} {g : GX} {N : Nat} {ln : Nat → Nat} {S : HC} {a0 : Nat} {post : Int32 → HC → Prop} (hr_a0 : a0 < N) (hk_a0 : kd a0 = 0) (h : wpX0_bringForth ln S a0 post) : Met l yX0_bringForth (Cond.code yX0_bringForth prog_2_method_10_code 7 (Option.some Jvm.ClassFile.FieldType.boolean) :: gtbl) rmX0_bringForth (va_Pc [.ref (gz g + a0)] (AtP g N ln S)) (QI g N ln post) 0 0 (gF g) := by
  refine m_of (by decide) (Nat.le_of_ble_eq_true rfl) ?_
  intro p e s m below meth c ls F hr I hl
  have hl : lv_has ls 7 [(0, .ref (gz g + a0))] := hl
  unfold wpX0_bringForth at h
  have hj_22 : ∀ (S : HC) (H : Heap) (locs : List Loc) (ls : Array Slot), BX0_bringForth_22 ln post S  → Inv g N ln S s H locs → lv_has ls 7 [] → W p l e rmX0_bringForth s m ([.ref (gz g + a0)] : List Value).toArray below meth c H locs 0 0 (MQ below (QI g N ln post) ([.ref (gz g + a0)] : List Value).toArray s 0 0 (gF g)) (F0 m 22 ls []) := by
    intro S H locs ls h I hl
    unfold BX0_bringForth_22 at h
    refine lv_iconst (v := 0) F.1 F.2.1 dX0_bringForth_22 (by decide) ?_
    exact r_zreturn F I ⟨hr.1, hr.2.1, trivial⟩ h dX0_bringForth_23
  refine lv_aload_n F.1 F.2.1 dX0_bringForth_0 rfl (lv_at hl 0 rfl) ?_
  refine lv_iconst (v := 0) F.1 F.2.1 dX0_bringForth_1 (by decide) ?_
  refine g_I I (run_V (As := [.int (0 : Int32)]) (rest := []) F I hr_a0 hk_a0 (by decide) kX0_73 (ctX0_howMany hr_a0 hk_a0 h) ⟨rfl, rfl⟩ ⟨Nat.le_of_ble_eq_true rfl, Nat.le_of_ble_eq_true rfl⟩ rfl hl.1 rfl (Nat.le_of_ble_eq_true rfl) ⟨Nat.le_of_ble_eq_true rfl, Nat.le_of_ble_eq_true rfl⟩ dX0_bringForth_2) (fun z1 S H locs I h => ?_)
  refine lv_istore_n (lv' := [(1, .int z1), (0, .ref (gz g + a0))]) F.1 F.2.1 dX0_bringForth_5 rfl hl (by decide) rfl (fun ls hl => ?_)
  refine lv_aload_n F.1 F.2.1 dX0_bringForth_6 rfl (lv_at hl 1 rfl) ?_
  refine lv_iconst (v := 1) F.1 F.2.1 dX0_bringForth_7 (by decide) ?_
  refine g_I I (run_V (As := [.int (1 : Int32)]) (rest := []) F I hr_a0 hk_a0 (by decide) kX0_73 (ctX0_howMany hr_a0 hk_a0 h) ⟨rfl, rfl⟩ ⟨Nat.le_of_ble_eq_true rfl, Nat.le_of_ble_eq_true rfl⟩ rfl hl.1 rfl (Nat.le_of_ble_eq_true rfl) ⟨Nat.le_of_ble_eq_true rfl, Nat.le_of_ble_eq_true rfl⟩ dX0_bringForth_8) (fun z2 S H locs I h => ?_)
  refine lv_istore_n (lv' := [(2, .int z2), (1, .int z1), (0, .ref (gz g + a0))]) F.1 F.2.1 dX0_bringForth_11 rfl hl (by decide) rfl (fun ls hl => ?_)
  refine lv_iload_n F.1 F.2.1 dX0_bringForth_12 rfl (lv_at hl 1 rfl) ?_
  refine lv_iconst (v := 1) F.1 F.2.1 dX0_bringForth_13 (by decide) ?_
  refine r_icmp_lt (tgt := 22) F dX0_bringForth_14 (by decide) h (fun h => ?_) (fun h => ?_)
  · exact hj_22 S _ _ _   h I (lv_sub hl [] rfl)
  · refine lv_iload_n F.1 F.2.1 dX0_bringForth_17 rfl (lv_at hl 0 rfl) ?_
    refine lv_iconst (v := 1) F.1 F.2.1 dX0_bringForth_18 (by decide) ?_
    refine r_icmp_ge (tgt := 24) F dX0_bringForth_19 (by decide) h (fun h => ?_) (fun h => ?_)
    · refine lv_aload_n F.1 F.2.1 dX0_bringForth_24 rfl (lv_at hl 2 rfl) ?_
      refine lv_iconst (v := 0) F.1 F.2.1 dX0_bringForth_25 (by decide) ?_
      refine lv_aload_n F.1 F.2.1 dX0_bringForth_26 rfl (lv_at hl 2 rfl) ?_
      refine g_I I (run_V (As := []) (rest := [.int (0 : Int32), .ref (gz g + a0)]) F I hr_a0 hk_a0 (by decide) kX0_62 (ctX0_draw hr_a0 hk_a0 h) ⟨rfl, rfl⟩ ⟨Nat.le_of_ble_eq_true rfl, Nat.le_of_ble_eq_true rfl⟩ rfl hl.1 rfl (Nat.le_of_ble_eq_true rfl) ⟨Nat.le_of_ble_eq_true rfl, Nat.le_of_ble_eq_true rfl⟩ dX0_bringForth_27) (fun z3 S H locs I h => ?_)
      refine lv_iload_n F.1 F.2.1 dX0_bringForth_30 rfl (lv_at hl 1 rfl) ?_
      refine r_irem F dX0_bringForth_31 h (fun z4 h => ?_)
      refine g_I I (run_V (As := [.int (0 : Int32), .int z4]) (rest := []) F I hr_a0 hk_a0 (by decide) kX0_77 (ctX0_nthOf hr_a0 hk_a0 h) ⟨rfl, rfl⟩ ⟨Nat.le_of_ble_eq_true rfl, Nat.le_of_ble_eq_true rfl⟩ rfl hl.1 rfl (Nat.le_of_ble_eq_true rfl) ⟨Nat.le_of_ble_eq_true rfl, Nat.le_of_ble_eq_true rfl⟩ dX0_bringForth_32) (fun z5 S H locs I h => ?_)
      refine lv_istore_n (lv' := [(3, .int z5), (2, .int z2), (1, .int z1), (0, .ref (gz g + a0))]) F.1 F.2.1 dX0_bringForth_35 rfl hl (by decide) rfl (fun ls hl => ?_)
      refine lv_aload_n F.1 F.2.1 dX0_bringForth_36 rfl (lv_at hl 3 rfl) ?_
      refine lv_iconst (v := 1) F.1 F.2.1 dX0_bringForth_37 (by decide) ?_
      refine lv_aload_n F.1 F.2.1 dX0_bringForth_38 rfl (lv_at hl 3 rfl) ?_
      refine g_I I (run_V (As := []) (rest := [.int (1 : Int32), .ref (gz g + a0)]) F I hr_a0 hk_a0 (by decide) kX0_62 (ctX0_draw hr_a0 hk_a0 h) ⟨rfl, rfl⟩ ⟨Nat.le_of_ble_eq_true rfl, Nat.le_of_ble_eq_true rfl⟩ rfl hl.1 rfl (Nat.le_of_ble_eq_true rfl) ⟨Nat.le_of_ble_eq_true rfl, Nat.le_of_ble_eq_true rfl⟩ dX0_bringForth_39) (fun z6 S H locs I h => ?_)
      refine lv_iload_n F.1 F.2.1 dX0_bringForth_42 rfl (lv_at hl 1 rfl) ?_
      refine r_irem F dX0_bringForth_43 h (fun z7 h => ?_)
      refine g_I I (run_V (As := [.int (1 : Int32), .int z7]) (rest := []) F I hr_a0 hk_a0 (by decide) kX0_77 (ctX0_nthOf hr_a0 hk_a0 h) ⟨rfl, rfl⟩ ⟨Nat.le_of_ble_eq_true rfl, Nat.le_of_ble_eq_true rfl⟩ rfl hl.1 rfl (Nat.le_of_ble_eq_true rfl) ⟨Nat.le_of_ble_eq_true rfl, Nat.le_of_ble_eq_true rfl⟩ dX0_bringForth_44) (fun z8 S H locs I h => ?_)
      refine lv_istore (lv' := [(4, .int z8), (3, .int z5), (2, .int z2), (1, .int z1), (0, .ref (gz g + a0))]) F.1 F.2.1 dX0_bringForth_47 hl (by decide) rfl (fun ls hl => ?_)
      refine lv_aload_n F.1 F.2.1 dX0_bringForth_49 rfl (lv_at hl 4 rfl) ?_
      refine g_I I (run_V (As := []) (rest := []) F I hr_a0 hk_a0 (by decide) kX0_62 (ctX0_draw hr_a0 hk_a0 h) ⟨rfl, rfl⟩ ⟨Nat.le_of_ble_eq_true rfl, Nat.le_of_ble_eq_true rfl⟩ rfl hl.1 rfl (Nat.le_of_ble_eq_true rfl) ⟨Nat.le_of_ble_eq_true rfl, Nat.le_of_ble_eq_true rfl⟩ dX0_bringForth_50) (fun z9 S H locs I h => ?_)
      refine lv_iconst (v := 2) F.1 F.2.1 dX0_bringForth_53 (by decide) ?_
      refine r_irem F dX0_bringForth_54 h (fun z10 h => ?_)
      refine lv_istore (lv' := [(5, .int z10), (4, .int z8), (3, .int z5), (2, .int z2), (1, .int z1), (0, .ref (gz g + a0))]) F.1 F.2.1 dX0_bringForth_55 hl (by decide) rfl (fun ls hl => ?_)
      refine lv_aload_n F.1 F.2.1 dX0_bringForth_57 rfl (lv_at hl 5 rfl) ?_
      refine g_I I (run_V (As := []) (rest := []) F I hr_a0 hk_a0 (by decide) kX0_62 (ctX0_draw hr_a0 hk_a0 h) ⟨rfl, rfl⟩ ⟨Nat.le_of_ble_eq_true rfl, Nat.le_of_ble_eq_true rfl⟩ rfl hl.1 rfl (Nat.le_of_ble_eq_true rfl) ⟨Nat.le_of_ble_eq_true rfl, Nat.le_of_ble_eq_true rfl⟩ dX0_bringForth_58) (fun z11 S H locs I h => ?_)
      refine lv_bipush (v := 6) F.1 F.2.1 dX0_bringForth_61 (by decide) ?_
      refine r_irem F dX0_bringForth_63 h (fun z12 h => ?_)
      refine lv_istore (lv' := [(6, .int z12), (5, .int z10), (4, .int z8), (3, .int z5), (2, .int z2), (1, .int z1), (0, .ref (gz g + a0))]) F.1 F.2.1 dX0_bringForth_64 hl (by decide) rfl (fun ls hl => ?_)
      refine lv_aload_n F.1 F.2.1 dX0_bringForth_66 rfl (lv_at hl 6 rfl) ?_
      refine lv_iload F.1 F.2.1 dX0_bringForth_67 (lv_at hl 0 rfl) ?_
      refine lv_iload_n F.1 F.2.1 dX0_bringForth_69 rfl (lv_at hl 3 rfl) ?_
      refine lv_iload F.1 F.2.1 dX0_bringForth_70 (lv_at hl 2 rfl) ?_
      refine lv_iload F.1 F.2.1 dX0_bringForth_72 (lv_at hl 1 rfl) ?_
      refine lv_aload_n F.1 F.2.1 dX0_bringForth_74 rfl (lv_at hl 6 rfl) ?_
      refine g_I I (run_V (As := []) (rest := [.int z10, .int z8, .int z5, .int z12, .ref (gz g + a0)]) F I hr_a0 hk_a0 (by decide) kX0_62 (ctX0_draw hr_a0 hk_a0 h) ⟨rfl, rfl⟩ ⟨Nat.le_of_ble_eq_true rfl, Nat.le_of_ble_eq_true rfl⟩ rfl hl.1 rfl (Nat.le_of_ble_eq_true rfl) ⟨Nat.le_of_ble_eq_true rfl, Nat.le_of_ble_eq_true rfl⟩ dX0_bringForth_75) (fun z13 S H locs I h => ?_)
      refine lv_bipush (v := 8) F.1 F.2.1 dX0_bringForth_78 (by decide) ?_
      refine r_irem F dX0_bringForth_80 h (fun z14 h => ?_)
      refine g_I I (run_V (As := [.int z12, .int z5, .int z8, .int z10, .int z14]) (rest := []) F I hr_a0 hk_a0 (by decide) kX0_66 (ctX0_add hr_a0 hk_a0 h) ⟨rfl, rfl⟩ ⟨Nat.le_of_ble_eq_true rfl, Nat.le_of_ble_eq_true rfl⟩ rfl hl.1 rfl (Nat.le_of_ble_eq_true rfl) ⟨Nat.le_of_ble_eq_true rfl, Nat.le_of_ble_eq_true rfl⟩ dX0_bringForth_81) (fun z15 S H locs I h => ?_)
      refine lv_pop F.1 F.2.1 dX0_bringForth_84 rfl ?_
      refine lv_iconst (v := 1) F.1 F.2.1 dX0_bringForth_85 (by decide) ?_
      exact r_zreturn F I ⟨hr.1, hr.2.1, trivial⟩ h dX0_bringForth_86
    · exact hj_22 S _ _ _   h I (lv_sub hl [] rfl)
theorem bdX0_passYear_0 : ∀ q ∈ ([(0, .aload_n 0, 1), (1, .invokevirtual 62, 3), (4, .bipush 100, 2), (6, .irem, 1), (7, .aload_n 0, 1), (8, .getfield 34, 3), (11, .if_icmp .ge 7, 3), (14, .iconst 1, 1), (15, .goto 4, 3), (18, .iconst 0, 1), (19, .istore_n 1, 1), (20, .aload_n 0, 1), (21, .dup, 1), (22, .getfield 37, 3), (25, .iconst 1, 1), (26, .iadd, 1), (27, .putfield 37, 3), (30, .iload_n 1, 1), (31, .ifCond .eq 21, 3), (34, .aload_n 0, 1), (35, .invokevirtual 56, 3), (38, .ifCond .eq 14, 3), (41, .aload_n 0, 1), (42, .invokevirtual 70, 3), (45, .ifCond .eq 7, 3), (48, .iconst 1, 1), (49, .goto 4, 3), (52, .iconst 0, 1), (53, .ireturn, 1)] : List (Nat × Jvm.ClassFile.Instr × Nat)), decode cX0_passYear q.1 = .ok q.2 := chk_ok _ 0 _ rfl (by decide +kernel)
theorem dX0_passYear_0 : decode cX0_passYear 0 = .ok (.aload_n 0, 1) := bdX0_passYear_0 (0, .aload_n 0, 1) (List.mem_of_getElem? (i := 0) rfl)
theorem dX0_passYear_1 : decode cX0_passYear 1 = .ok (.invokevirtual 62, 3) := bdX0_passYear_0 (1, .invokevirtual 62, 3) (List.mem_of_getElem? (i := 1) rfl)
theorem dX0_passYear_4 : decode cX0_passYear 4 = .ok (.bipush 100, 2) := bdX0_passYear_0 (4, .bipush 100, 2) (List.mem_of_getElem? (i := 2) rfl)
theorem dX0_passYear_6 : decode cX0_passYear 6 = .ok (.irem, 1) := bdX0_passYear_0 (6, .irem, 1) (List.mem_of_getElem? (i := 3) rfl)
theorem dX0_passYear_7 : decode cX0_passYear 7 = .ok (.aload_n 0, 1) := bdX0_passYear_0 (7, .aload_n 0, 1) (List.mem_of_getElem? (i := 4) rfl)
theorem dX0_passYear_8 : decode cX0_passYear 8 = .ok (.getfield 34, 3) := bdX0_passYear_0 (8, .getfield 34, 3) (List.mem_of_getElem? (i := 5) rfl)
theorem dX0_passYear_11 : decode cX0_passYear 11 = .ok (.if_icmp .ge 7, 3) := bdX0_passYear_0 (11, .if_icmp .ge 7, 3) (List.mem_of_getElem? (i := 6) rfl)
theorem dX0_passYear_14 : decode cX0_passYear 14 = .ok (.iconst 1, 1) := bdX0_passYear_0 (14, .iconst 1, 1) (List.mem_of_getElem? (i := 7) rfl)
theorem dX0_passYear_15 : decode cX0_passYear 15 = .ok (.goto 4, 3) := bdX0_passYear_0 (15, .goto 4, 3) (List.mem_of_getElem? (i := 8) rfl)
theorem dX0_passYear_18 : decode cX0_passYear 18 = .ok (.iconst 0, 1) := bdX0_passYear_0 (18, .iconst 0, 1) (List.mem_of_getElem? (i := 9) rfl)
theorem dX0_passYear_19 : decode cX0_passYear 19 = .ok (.istore_n 1, 1) := bdX0_passYear_0 (19, .istore_n 1, 1) (List.mem_of_getElem? (i := 10) rfl)
theorem dX0_passYear_20 : decode cX0_passYear 20 = .ok (.aload_n 0, 1) := bdX0_passYear_0 (20, .aload_n 0, 1) (List.mem_of_getElem? (i := 11) rfl)
theorem dX0_passYear_21 : decode cX0_passYear 21 = .ok (.dup, 1) := bdX0_passYear_0 (21, .dup, 1) (List.mem_of_getElem? (i := 12) rfl)
theorem dX0_passYear_22 : decode cX0_passYear 22 = .ok (.getfield 37, 3) := bdX0_passYear_0 (22, .getfield 37, 3) (List.mem_of_getElem? (i := 13) rfl)
theorem dX0_passYear_25 : decode cX0_passYear 25 = .ok (.iconst 1, 1) := bdX0_passYear_0 (25, .iconst 1, 1) (List.mem_of_getElem? (i := 14) rfl)
theorem dX0_passYear_26 : decode cX0_passYear 26 = .ok (.iadd, 1) := bdX0_passYear_0 (26, .iadd, 1) (List.mem_of_getElem? (i := 15) rfl)
theorem dX0_passYear_27 : decode cX0_passYear 27 = .ok (.putfield 37, 3) := bdX0_passYear_0 (27, .putfield 37, 3) (List.mem_of_getElem? (i := 16) rfl)
theorem dX0_passYear_30 : decode cX0_passYear 30 = .ok (.iload_n 1, 1) := bdX0_passYear_0 (30, .iload_n 1, 1) (List.mem_of_getElem? (i := 17) rfl)
theorem dX0_passYear_31 : decode cX0_passYear 31 = .ok (.ifCond .eq 21, 3) := bdX0_passYear_0 (31, .ifCond .eq 21, 3) (List.mem_of_getElem? (i := 18) rfl)
theorem dX0_passYear_34 : decode cX0_passYear 34 = .ok (.aload_n 0, 1) := bdX0_passYear_0 (34, .aload_n 0, 1) (List.mem_of_getElem? (i := 19) rfl)
theorem dX0_passYear_35 : decode cX0_passYear 35 = .ok (.invokevirtual 56, 3) := bdX0_passYear_0 (35, .invokevirtual 56, 3) (List.mem_of_getElem? (i := 20) rfl)
theorem dX0_passYear_38 : decode cX0_passYear 38 = .ok (.ifCond .eq 14, 3) := bdX0_passYear_0 (38, .ifCond .eq 14, 3) (List.mem_of_getElem? (i := 21) rfl)
theorem dX0_passYear_41 : decode cX0_passYear 41 = .ok (.aload_n 0, 1) := bdX0_passYear_0 (41, .aload_n 0, 1) (List.mem_of_getElem? (i := 22) rfl)
theorem dX0_passYear_42 : decode cX0_passYear 42 = .ok (.invokevirtual 70, 3) := bdX0_passYear_0 (42, .invokevirtual 70, 3) (List.mem_of_getElem? (i := 23) rfl)
theorem dX0_passYear_45 : decode cX0_passYear 45 = .ok (.ifCond .eq 7, 3) := bdX0_passYear_0 (45, .ifCond .eq 7, 3) (List.mem_of_getElem? (i := 24) rfl)
theorem dX0_passYear_48 : decode cX0_passYear 48 = .ok (.iconst 1, 1) := bdX0_passYear_0 (48, .iconst 1, 1) (List.mem_of_getElem? (i := 25) rfl)
theorem dX0_passYear_49 : decode cX0_passYear 49 = .ok (.goto 4, 3) := bdX0_passYear_0 (49, .goto 4, 3) (List.mem_of_getElem? (i := 26) rfl)
theorem dX0_passYear_52 : decode cX0_passYear 52 = .ok (.iconst 0, 1) := bdX0_passYear_0 (52, .iconst 0, 1) (List.mem_of_getElem? (i := 27) rfl)
theorem dX0_passYear_53 : decode cX0_passYear 53 = .ok (.ireturn, 1) := bdX0_passYear_0 (53, .ireturn, 1) (List.mem_of_getElem? (i := 28) rfl)
theorem fX0_37 : fldOK RX0 37 0 8 .int false := ⟨_, _, _, tyX0, ⟨rfl, iX0, by decide, rfl, by decide⟩, tw_115, ⟨tyX0_ok, nmX0⟩, by decide +kernel, rfl, rfl⟩
theorem kX0_70 : mthV RX0 70 0 yX0_bringForth prog_2_method_10_code 7 (Option.some Jvm.ClassFile.FieldType.boolean) 0 := ⟨⟨⟨tw_477, tw_61, tw_480⟩, rfl, by decide +kernel⟩, tw_479, tw_3, rfl⟩
theorem fX0_34 : fldOK RX0 34 0 7 .int false := ⟨_, _, _, tyX0, ⟨rfl, iX0, by decide, rfl, by decide⟩, tw_113, ⟨tyX0_ok, nmX0⟩, by decide +kernel, rfl, rfl⟩
def BX0_passYear_52 (ln : Nat → Nat) (post : Int32 → HC → Prop) (S : HC)  : Prop := rb_ .boolean (0 : Int32) (post (0 : Int32) S)
def BX0_passYear_19 (ln : Nat → Nat) (post : Int32 → HC → Prop) (S : HC) (x0 : Nat) (t0 : Int32) : Prop := lt_ (hI S x0 8) fun z1 => lt_ (z1 + (1 : Int32)) fun z2 => lt_ (sI S x0 8 z2) fun S => if t0 = 0 then (BX0_passYear_52 ln post S) else (wpX0_hasRoom ln S x0 fun z3 S => if z3 = 0 then (BX0_passYear_52 ln post S) else (wpX0_bringForth ln S x0 fun z4 S => if z4 = 0 then (BX0_passYear_52 ln post S) else (rb_ .boolean (1 : Int32) (post (1 : Int32) S))))
def wpX0_passYear (ln : Nat → Nat) (S : HC) (a0 : Nat) (post : Int32 → HC → Prop) : Prop := wpX0_draw ln S a0 fun z5 S => ne_ (100 : Int32) <| lt_ (z5 - z5 / (100 : Int32) * (100 : Int32)) fun z6 => lt_ (hI S a0 7) fun z7 => if z7 ≤ z6 then (BX0_passYear_19 ln post S a0 (0 : Int32)) else (BX0_passYear_19 ln post S a0 (1 : Int32))
abbrev rmX0_passYear : Room := { frames := 3, cells := 0, slots := 0, locals := 72 }
set_option maxHeartbeats 4000000 in
set_option maxRecDepth 100000 in
theorem ctX0_passYear {l : Launch} {g : GX} {N : Nat} {ln : Nat → Nat} {S : HC} {a0 : Nat} {post : Int32 → HC → Prop} (hr_a0 : a0 < N) (hk_a0 : kd a0 = 0) (h : wpX0_passYear ln S a0 post) : Met l yX0_passYear (Cond.code yX0_passYear prog_2_method_9_code 2 (Option.some Jvm.ClassFile.FieldType.boolean) :: gtbl) rmX0_passYear (va_Pc [.ref (gz g + a0)] (AtP g N ln S)) (QI g N ln post) 0 0 (gF g) := by
  refine m_of (by decide) (Nat.le_of_ble_eq_true rfl) ?_
  intro p e s m below meth c ls F hr I hl
  have hl : lv_has ls 2 [(0, .ref (gz g + a0))] := hl
  unfold wpX0_passYear at h
  have hj_52 : ∀ (S : HC) (H : Heap) (locs : List Loc) (ls : Array Slot), BX0_passYear_52 ln post S  → Inv g N ln S s H locs → lv_has ls 2 [] → W p l e rmX0_passYear s m ([.ref (gz g + a0)] : List Value).toArray below meth c H locs 0 0 (MQ below (QI g N ln post) ([.ref (gz g + a0)] : List Value).toArray s 0 0 (gF g)) (F0 m 52 ls []) := by
    intro S H locs ls h I hl
    unfold BX0_passYear_52 at h
    refine lv_iconst (v := 0) F.1 F.2.1 dX0_passYear_52 (by decide) ?_
    exact r_zreturn F I ⟨hr.1, hr.2.1, trivial⟩ h dX0_passYear_53
  have hj_19 : ∀ (S : HC) (H : Heap) (locs : List Loc) (ls : Array Slot) (x0 : Nat) (t0 : Int32), x0 < N → kd x0 = 0 → BX0_passYear_19 ln post S x0 t0 → Inv g N ln S s H locs → lv_has ls 2 [(0, .ref (gz g + x0))] → W p l e rmX0_passYear s m ([.ref (gz g + a0)] : List Value).toArray below meth c H locs 0 0 (MQ below (QI g N ln post) ([.ref (gz g + a0)] : List Value).toArray s 0 0 (gF g)) (F0 m 19 ls [.int t0]) := by
    intro S H locs ls x0 t0 hr_x0 hk_x0 h I hl
    unfold BX0_passYear_19 at h
    refine lv_istore_n (lv' := [(1, .int t0), (0, .ref (gz g + x0))]) F.1 F.2.1 dX0_passYear_19 rfl hl (by decide) rfl (fun ls hl => ?_)
    refine lv_aload_n F.1 F.2.1 dX0_passYear_20 rfl (lv_at hl 1 rfl) ?_
    refine lv_dup F.1 F.2.1 dX0_passYear_21 rfl ?_
    refine r_getI F I hr_x0 hk_x0 fX0_37 rfl dX0_passYear_22 h (fun z1 h => ?_)
    refine lv_iconst (v := 1) F.1 F.2.1 dX0_passYear_25 (by decide) ?_
    refine r_iadd F dX0_passYear_26 h (fun z2 h => ?_)
    refine r_putI F I hr_x0 hk_x0 fX0_37 rfl (Or.inl rfl) ⟨rfl, rfl⟩ dX0_passYear_27 h (fun S H locs I h => ?_)
    refine lv_iload_n F.1 F.2.1 dX0_passYear_30 rfl (lv_at hl 0 rfl) ?_
    refine r_if_eq (tgt := 52) F dX0_passYear_31 (by decide) h (fun h => ?_) (fun h => ?_)
    · exact hj_52 S _ _ _   h I (lv_sub hl [] rfl)
    · refine lv_aload_n F.1 F.2.1 dX0_passYear_34 rfl (lv_at hl 1 rfl) ?_
      refine g_I I (run_V (As := []) (rest := []) F I hr_x0 hk_x0 (by decide) kX0_56 (ctX0_hasRoom hr_x0 hk_x0 h) ⟨rfl, rfl⟩ ⟨Nat.le_of_ble_eq_true rfl, Nat.le_of_ble_eq_true rfl⟩ rfl hl.1 rfl (Nat.le_of_ble_eq_true rfl) ⟨Nat.le_of_ble_eq_true rfl, Nat.le_of_ble_eq_true rfl⟩ dX0_passYear_35) (fun z3 S H locs I h => ?_)
      refine r_if_eq (tgt := 52) F dX0_passYear_38 (by decide) h (fun h => ?_) (fun h => ?_)
      · exact hj_52 S _ _ _   h I (lv_sub hl [] rfl)
      · refine lv_aload_n F.1 F.2.1 dX0_passYear_41 rfl (lv_at hl 1 rfl) ?_
        refine g_I I (run_V (As := []) (rest := []) F I hr_x0 hk_x0 (by decide) kX0_70 (ctX0_bringForth hr_x0 hk_x0 h) ⟨rfl, rfl⟩ ⟨Nat.le_of_ble_eq_true rfl, Nat.le_of_ble_eq_true rfl⟩ rfl hl.1 rfl (Nat.le_of_ble_eq_true rfl) ⟨Nat.le_of_ble_eq_true rfl, Nat.le_of_ble_eq_true rfl⟩ dX0_passYear_42) (fun z4 S H locs I h => ?_)
        refine r_if_eq (tgt := 52) F dX0_passYear_45 (by decide) h (fun h => ?_) (fun h => ?_)
        · exact hj_52 S _ _ _   h I (lv_sub hl [] rfl)
        · refine lv_iconst (v := 1) F.1 F.2.1 dX0_passYear_48 (by decide) ?_
          refine lv_goto (tgt := 53) F.1 F.2.1 dX0_passYear_49 (by decide) ?_
          exact r_zreturn F I ⟨hr.1, hr.2.1, trivial⟩ h dX0_passYear_53
  refine lv_aload_n F.1 F.2.1 dX0_passYear_0 rfl (lv_at hl 0 rfl) ?_
  refine g_I I (run_V (As := []) (rest := []) F I hr_a0 hk_a0 (by decide) kX0_62 (ctX0_draw hr_a0 hk_a0 h) ⟨rfl, rfl⟩ ⟨Nat.le_of_ble_eq_true rfl, Nat.le_of_ble_eq_true rfl⟩ rfl hl.1 rfl (Nat.le_of_ble_eq_true rfl) ⟨Nat.le_of_ble_eq_true rfl, Nat.le_of_ble_eq_true rfl⟩ dX0_passYear_1) (fun z5 S H locs I h => ?_)
  refine lv_bipush (v := 100) F.1 F.2.1 dX0_passYear_4 (by decide) ?_
  refine r_irem F dX0_passYear_6 h (fun z6 h => ?_)
  refine lv_aload_n F.1 F.2.1 dX0_passYear_7 rfl (lv_at hl 0 rfl) ?_
  refine r_getI F I hr_a0 hk_a0 fX0_34 rfl dX0_passYear_8 h (fun z7 h => ?_)
  refine r_icmp_ge (tgt := 18) F dX0_passYear_11 (by decide) h (fun h => ?_) (fun h => ?_)
  · refine lv_iconst (v := 0) F.1 F.2.1 dX0_passYear_18 (by decide) ?_
    exact hj_19 S _ _ _ a0 (0 : Int32) hr_a0 hk_a0 h I (lv_sub hl [0] rfl)
  · refine lv_iconst (v := 1) F.1 F.2.1 dX0_passYear_14 (by decide) ?_
    refine lv_goto (tgt := 19) F.1 F.2.1 dX0_passYear_15 (by decide) ?_
    exact hj_19 S _ _ _ a0 (1 : Int32) hr_a0 hk_a0 h I (lv_sub hl [0] rfl)
theorem bdX0_founders_0 : ∀ q ∈ ([(0, .iconst 0, 1), (1, .istore_n 1, 1), (2, .iconst 0, 1), (3, .istore_n 2, 1), (4, .iload_n 2, 1), (5, .aload_n 0, 1), (6, .getfield 30, 3), (9, .if_icmp .ge 22, 3), (12, .aload_n 0, 1), (13, .getfield 15, 3), (16, .iload_n 2, 1), (17, .iaload, 1), (18, .iconst (-1), 1), (19, .if_icmp .ne 6, 3), (22, .iinc 1 1, 3), (25, .iinc 2 1, 3), (28, .goto (-24), 3), (31, .iload_n 1, 1), (32, .ireturn, 1)] : List (Nat × Jvm.ClassFile.Instr × Nat)), decode cX0_founders q.1 = .ok q.2 := chk_ok _ 0 _ rfl (by decide +kernel)
theorem dX0_founders_0 : decode cX0_founders 0 = .ok (.iconst 0, 1) := bdX0_founders_0 (0, .iconst 0, 1) (List.mem_of_getElem? (i := 0) rfl)
theorem dX0_founders_1 : decode cX0_founders 1 = .ok (.istore_n 1, 1) := bdX0_founders_0 (1, .istore_n 1, 1) (List.mem_of_getElem? (i := 1) rfl)
theorem dX0_founders_2 : decode cX0_founders 2 = .ok (.iconst 0, 1) := bdX0_founders_0 (2, .iconst 0, 1) (List.mem_of_getElem? (i := 2) rfl)
theorem dX0_founders_3 : decode cX0_founders 3 = .ok (.istore_n 2, 1) := bdX0_founders_0 (3, .istore_n 2, 1) (List.mem_of_getElem? (i := 3) rfl)
theorem dX0_founders_4 : decode cX0_founders 4 = .ok (.iload_n 2, 1) := bdX0_founders_0 (4, .iload_n 2, 1) (List.mem_of_getElem? (i := 4) rfl)
theorem dX0_founders_5 : decode cX0_founders 5 = .ok (.aload_n 0, 1) := bdX0_founders_0 (5, .aload_n 0, 1) (List.mem_of_getElem? (i := 5) rfl)
theorem dX0_founders_6 : decode cX0_founders 6 = .ok (.getfield 30, 3) := bdX0_founders_0 (6, .getfield 30, 3) (List.mem_of_getElem? (i := 6) rfl)
theorem dX0_founders_9 : decode cX0_founders 9 = .ok (.if_icmp .ge 22, 3) := bdX0_founders_0 (9, .if_icmp .ge 22, 3) (List.mem_of_getElem? (i := 7) rfl)
theorem dX0_founders_12 : decode cX0_founders 12 = .ok (.aload_n 0, 1) := bdX0_founders_0 (12, .aload_n 0, 1) (List.mem_of_getElem? (i := 8) rfl)
theorem dX0_founders_13 : decode cX0_founders 13 = .ok (.getfield 15, 3) := bdX0_founders_0 (13, .getfield 15, 3) (List.mem_of_getElem? (i := 9) rfl)
theorem dX0_founders_16 : decode cX0_founders 16 = .ok (.iload_n 2, 1) := bdX0_founders_0 (16, .iload_n 2, 1) (List.mem_of_getElem? (i := 10) rfl)
theorem dX0_founders_17 : decode cX0_founders 17 = .ok (.iaload, 1) := bdX0_founders_0 (17, .iaload, 1) (List.mem_of_getElem? (i := 11) rfl)
theorem dX0_founders_18 : decode cX0_founders 18 = .ok (.iconst (-1), 1) := bdX0_founders_0 (18, .iconst (-1), 1) (List.mem_of_getElem? (i := 12) rfl)
theorem dX0_founders_19 : decode cX0_founders 19 = .ok (.if_icmp .ne 6, 3) := bdX0_founders_0 (19, .if_icmp .ne 6, 3) (List.mem_of_getElem? (i := 13) rfl)
theorem dX0_founders_22 : decode cX0_founders 22 = .ok (.iinc 1 1, 3) := bdX0_founders_0 (22, .iinc 1 1, 3) (List.mem_of_getElem? (i := 14) rfl)
theorem dX0_founders_25 : decode cX0_founders 25 = .ok (.iinc 2 1, 3) := bdX0_founders_0 (25, .iinc 2 1, 3) (List.mem_of_getElem? (i := 15) rfl)
theorem dX0_founders_28 : decode cX0_founders 28 = .ok (.goto (-24), 3) := bdX0_founders_0 (28, .goto (-24), 3) (List.mem_of_getElem? (i := 16) rfl)
theorem dX0_founders_31 : decode cX0_founders 31 = .ok (.iload_n 1, 1) := bdX0_founders_0 (31, .iload_n 1, 1) (List.mem_of_getElem? (i := 17) rfl)
theorem dX0_founders_32 : decode cX0_founders 32 = .ok (.ireturn, 1) := bdX0_founders_0 (32, .ireturn, 1) (List.mem_of_getElem? (i := 18) rfl)
def BX0_founders_25 (ln : Nat → Nat) (post : Int32 → HC → Prop) (K4 : HC → Nat → Int32 → Int32 → Prop) (S : HC) (x0 : Nat) (x1 : Int32) (x2 : Int32) : Prop := lt_ (x2 + (1 : Int32)) fun z1 => K4 S x0 x1 z1
def LX0_founders_4 (ln : Nat → Nat) (post : Int32 → HC → Prop) : Nat → HC → Nat → Int32 → Int32 → Prop
  | 0 => fun _ _ _ _ => False
  | n4 + 1 => fun S x0 x1 x2 => lt_ (hI S x0 6) fun z2 => if z2 ≤ x2 then (post x1 S) else (dn_ (hR S x0 1) fun b3 => al_ (ln b3) x2 (hI S b3) fun z4 => if z4 = (-1 : Int32) then (lt_ (x1 + (1 : Int32)) fun z5 => BX0_founders_25 ln post (LX0_founders_4 ln post n4) S x0 z5 x2) else (BX0_founders_25 ln post (LX0_founders_4 ln post n4) S x0 x1 x2))
def wpX0_founders (ln : Nat → Nat) (S : HC) (a0 : Nat) (post : Int32 → HC → Prop) : Prop := ∃ n4, LX0_founders_4 ln post n4 S a0 (0 : Int32) (0 : Int32)
abbrev rmX0_founders : Room := { frames := 0, cells := 0, slots := 0, locals := 0 }
set_option maxHeartbeats 4000000 in
set_option maxRecDepth 100000 in
theorem ctX0_founders {l : Launch} {g : GX} {N : Nat} {ln : Nat → Nat} {S : HC} {a0 : Nat} {post : Int32 → HC → Prop} (hr_a0 : a0 < N) (hk_a0 : kd a0 = 0) (h : wpX0_founders ln S a0 post) : Met l yX0_founders (Cond.code yX0_founders prog_2_method_13_code 3 (Option.some Jvm.ClassFile.FieldType.int) :: gtbl) rmX0_founders (va_Pc [.ref (gz g + a0)] (AtP g N ln S)) (QI g N ln post) 0 0 (gF g) := by
  refine m_of (by decide) (Nat.le_of_ble_eq_true rfl) ?_
  intro p e s m below meth c ls F hr I hl
  have hl : lv_has ls 3 [(0, .ref (gz g + a0))] := hl
  unfold wpX0_founders at h
  have hl_4 : ∀ n4 : Nat, ∀ (S : HC) (H : Heap) (locs : List Loc) (ls : Array Slot) (x0 : Nat) (x1 : Int32) (x2 : Int32), x0 < N → kd x0 = 0 → LX0_founders_4 ln post n4 S x0 x1 x2 → Inv g N ln S s H locs → lv_has ls 3 [(0, .ref (gz g + x0)), (1, .int x1), (2, .int x2)] → W p l e rmX0_founders s m ([.ref (gz g + a0)] : List Value).toArray below meth c H locs 0 0 (MQ below (QI g N ln post) ([.ref (gz g + a0)] : List Value).toArray s 0 0 (gF g)) (F0 m 4 ls []) := by
    intro n4
    induction n4 with
    | zero =>
      intro S H locs ls x0 x1 x2 hr_x0 hk_x0 h I hl
      exact h.elim
    | succ n4 ih =>
      have hk4 := ih
      have hj_25 : ∀ (S : HC) (H : Heap) (locs : List Loc) (ls : Array Slot) (x0 : Nat) (x1 : Int32) (x2 : Int32), x0 < N → kd x0 = 0 → BX0_founders_25 ln post (LX0_founders_4 ln post n4) S x0 x1 x2 → Inv g N ln S s H locs → lv_has ls 3 [(0, .ref (gz g + x0)), (1, .int x1), (2, .int x2)] → W p l e rmX0_founders s m ([.ref (gz g + a0)] : List Value).toArray below meth c H locs 0 0 (MQ below (QI g N ln post) ([.ref (gz g + a0)] : List Value).toArray s 0 0 (gF g)) (F0 m 25 ls []) := by
        intro S H locs ls x0 x1 x2 hr_x0 hk_x0 h I hl
        unfold BX0_founders_25 at h
        obtain ⟨z1, e_z1, h⟩ := lt_x h
        refine lv_iinc (v := z1) (lv' := [(2, .int z1), (0, .ref (gz g + x0)), (1, .int x1)]) F.1 F.2.1 dX0_founders_25 hl (k := 2) rfl (by rw [e_z1]; rfl) (by decide) rfl (fun ls hl => ?_)
        refine lv_goto (tgt := 4) F.1 F.2.1 dX0_founders_28 (by decide) ?_
        exact hk4 S _ _ _ x0 x1 z1 hr_x0 hk_x0 h I (lv_sub hl [1, 2, 0] rfl)
      intro S H locs ls x0 x1 x2 hr_x0 hk_x0 h I hl
      rw [LX0_founders_4] at h
      refine lv_iload_n F.1 F.2.1 dX0_founders_4 rfl (lv_at hl 2 rfl) ?_
      refine lv_aload_n F.1 F.2.1 dX0_founders_5 rfl (lv_at hl 0 rfl) ?_
      refine r_getI F I hr_x0 hk_x0 fX0_30 rfl dX0_founders_6 h (fun z2 h => ?_)
      refine r_icmp_ge (tgt := 31) F dX0_founders_9 (by decide) h (fun h => ?_) (fun h => ?_)
      · refine lv_iload_n F.1 F.2.1 dX0_founders_31 rfl (lv_at hl 1 rfl) ?_
        exact r_ireturn F I ⟨hr.1, hr.2.1, trivial⟩ h dX0_founders_32
      · refine lv_aload_n F.1 F.2.1 dX0_founders_12 rfl (lv_at hl 0 rfl) ?_
        refine r_getN F I hr_x0 hk_x0 fX0_15 (f := 9) rfl (by decide) dX0_founders_13 h (fun b3 hr_b3 hk_b3 h => ?_)
        refine lv_iload_n F.1 F.2.1 dX0_founders_16 rfl (lv_at hl 2 rfl) ?_
        refine r_ald F I hr_b3 hk_b3 dX0_founders_17 h (fun z4 h => ?_)
        refine lv_iconst (v := -1) F.1 F.2.1 dX0_founders_18 (by decide) ?_
        refine r_icmp_ne (tgt := 25) F dX0_founders_19 (by decide) h (fun h => ?_) (fun h => ?_)
        · exact hj_25 S _ _ _ x0 x1 x2 hr_x0 hk_x0 h I (lv_sub hl [0, 1, 2] rfl)
        · obtain ⟨z5, e_z5, h⟩ := lt_x h
          refine lv_iinc (v := z5) (lv' := [(1, .int z5), (0, .ref (gz g + x0)), (2, .int x2)]) F.1 F.2.1 dX0_founders_22 hl (k := 1) rfl (by rw [e_z5]; rfl) (by decide) rfl (fun ls hl => ?_)
          exact hj_25 S _ _ _ x0 z5 x2 hr_x0 hk_x0 h I (lv_sub hl [1, 0, 2] rfl)
  refine lv_iconst (v := 0) F.1 F.2.1 dX0_founders_0 (by decide) ?_
  refine lv_istore_n (lv' := [(1, .int (0 : Int32)), (0, .ref (gz g + a0))]) F.1 F.2.1 dX0_founders_1 rfl hl (by decide) rfl (fun ls hl => ?_)
  refine lv_iconst (v := 0) F.1 F.2.1 dX0_founders_2 (by decide) ?_
  refine lv_istore_n (lv' := [(2, .int (0 : Int32)), (1, .int (0 : Int32)), (0, .ref (gz g + a0))]) F.1 F.2.1 dX0_founders_3 rfl hl (by decide) rfl (fun ls hl => ?_)
  obtain ⟨n4, h⟩ := h
  exact hl_4 n4 S _ _ _ a0 (0 : Int32) (0 : Int32) hr_a0 hk_a0 h I (lv_sub hl [2, 1, 0] rfl)
theorem bdX0_isHeiress_0 : ∀ q ∈ ([(0, .aload_n 0, 1), (1, .iload_n 1, 1), (2, .invokevirtual 52, 3), (5, .ifCond .eq 13, 3), (8, .aload_n 0, 1), (9, .getfield 21, 3), (12, .iload_n 1, 1), (13, .iaload, 1), (14, .iconst 1, 1), (15, .if_icmp .eq 5, 3), (18, .iconst 0, 1), (19, .ireturn, 1), (20, .aload_n 0, 1), (21, .getfield 15, 3), (24, .iload_n 1, 1), (25, .iaload, 1), (26, .iconst (-1), 1), (27, .if_icmp .ne 5, 3), (30, .iconst 1, 1), (31, .ireturn, 1), (32, .iconst 0, 1), (33, .istore_n 2, 1), (34, .iload_n 2, 1), (35, .aload_n 0, 1), (36, .getfield 30, 3), (39, .if_icmp .ge 35, 3), (42, .aload_n 0, 1), (43, .getfield 21, 3), (46, .iload_n 2, 1), (47, .iaload, 1), (48, .ifCond .ne 20, 3), (51, .aload_n 0, 1), (52, .getfield 15, 3), (55, .iload_n 2, 1), (56, .iaload, 1), (57, .aload_n 0, 1), (58, .getfield 15, 3), (61, .iload_n 1, 1), (62, .iaload, 1), (63, .if_icmp .ne 5, 3)] : List (Nat × Jvm.ClassFile.Instr × Nat)), decode cX0_isHeiress q.1 = .ok q.2 := chk_ok _ 0 _ rfl (by decide +kernel)
theorem dX0_isHeiress_0 : decode cX0_isHeiress 0 = .ok (.aload_n 0, 1) := bdX0_isHeiress_0 (0, .aload_n 0, 1) (List.mem_of_getElem? (i := 0) rfl)
theorem dX0_isHeiress_1 : decode cX0_isHeiress 1 = .ok (.iload_n 1, 1) := bdX0_isHeiress_0 (1, .iload_n 1, 1) (List.mem_of_getElem? (i := 1) rfl)
theorem dX0_isHeiress_2 : decode cX0_isHeiress 2 = .ok (.invokevirtual 52, 3) := bdX0_isHeiress_0 (2, .invokevirtual 52, 3) (List.mem_of_getElem? (i := 2) rfl)
theorem dX0_isHeiress_5 : decode cX0_isHeiress 5 = .ok (.ifCond .eq 13, 3) := bdX0_isHeiress_0 (5, .ifCond .eq 13, 3) (List.mem_of_getElem? (i := 3) rfl)
theorem dX0_isHeiress_8 : decode cX0_isHeiress 8 = .ok (.aload_n 0, 1) := bdX0_isHeiress_0 (8, .aload_n 0, 1) (List.mem_of_getElem? (i := 4) rfl)
theorem dX0_isHeiress_9 : decode cX0_isHeiress 9 = .ok (.getfield 21, 3) := bdX0_isHeiress_0 (9, .getfield 21, 3) (List.mem_of_getElem? (i := 5) rfl)
theorem dX0_isHeiress_12 : decode cX0_isHeiress 12 = .ok (.iload_n 1, 1) := bdX0_isHeiress_0 (12, .iload_n 1, 1) (List.mem_of_getElem? (i := 6) rfl)
theorem dX0_isHeiress_13 : decode cX0_isHeiress 13 = .ok (.iaload, 1) := bdX0_isHeiress_0 (13, .iaload, 1) (List.mem_of_getElem? (i := 7) rfl)
theorem dX0_isHeiress_14 : decode cX0_isHeiress 14 = .ok (.iconst 1, 1) := bdX0_isHeiress_0 (14, .iconst 1, 1) (List.mem_of_getElem? (i := 8) rfl)
theorem dX0_isHeiress_15 : decode cX0_isHeiress 15 = .ok (.if_icmp .eq 5, 3) := bdX0_isHeiress_0 (15, .if_icmp .eq 5, 3) (List.mem_of_getElem? (i := 9) rfl)
theorem dX0_isHeiress_18 : decode cX0_isHeiress 18 = .ok (.iconst 0, 1) := bdX0_isHeiress_0 (18, .iconst 0, 1) (List.mem_of_getElem? (i := 10) rfl)
theorem dX0_isHeiress_19 : decode cX0_isHeiress 19 = .ok (.ireturn, 1) := bdX0_isHeiress_0 (19, .ireturn, 1) (List.mem_of_getElem? (i := 11) rfl)
theorem dX0_isHeiress_20 : decode cX0_isHeiress 20 = .ok (.aload_n 0, 1) := bdX0_isHeiress_0 (20, .aload_n 0, 1) (List.mem_of_getElem? (i := 12) rfl)
theorem dX0_isHeiress_21 : decode cX0_isHeiress 21 = .ok (.getfield 15, 3) := bdX0_isHeiress_0 (21, .getfield 15, 3) (List.mem_of_getElem? (i := 13) rfl)
theorem dX0_isHeiress_24 : decode cX0_isHeiress 24 = .ok (.iload_n 1, 1) := bdX0_isHeiress_0 (24, .iload_n 1, 1) (List.mem_of_getElem? (i := 14) rfl)
theorem dX0_isHeiress_25 : decode cX0_isHeiress 25 = .ok (.iaload, 1) := bdX0_isHeiress_0 (25, .iaload, 1) (List.mem_of_getElem? (i := 15) rfl)
theorem dX0_isHeiress_26 : decode cX0_isHeiress 26 = .ok (.iconst (-1), 1) := bdX0_isHeiress_0 (26, .iconst (-1), 1) (List.mem_of_getElem? (i := 16) rfl)
theorem dX0_isHeiress_27 : decode cX0_isHeiress 27 = .ok (.if_icmp .ne 5, 3) := bdX0_isHeiress_0 (27, .if_icmp .ne 5, 3) (List.mem_of_getElem? (i := 17) rfl)
theorem dX0_isHeiress_30 : decode cX0_isHeiress 30 = .ok (.iconst 1, 1) := bdX0_isHeiress_0 (30, .iconst 1, 1) (List.mem_of_getElem? (i := 18) rfl)
theorem dX0_isHeiress_31 : decode cX0_isHeiress 31 = .ok (.ireturn, 1) := bdX0_isHeiress_0 (31, .ireturn, 1) (List.mem_of_getElem? (i := 19) rfl)
theorem dX0_isHeiress_32 : decode cX0_isHeiress 32 = .ok (.iconst 0, 1) := bdX0_isHeiress_0 (32, .iconst 0, 1) (List.mem_of_getElem? (i := 20) rfl)
theorem dX0_isHeiress_33 : decode cX0_isHeiress 33 = .ok (.istore_n 2, 1) := bdX0_isHeiress_0 (33, .istore_n 2, 1) (List.mem_of_getElem? (i := 21) rfl)
theorem dX0_isHeiress_34 : decode cX0_isHeiress 34 = .ok (.iload_n 2, 1) := bdX0_isHeiress_0 (34, .iload_n 2, 1) (List.mem_of_getElem? (i := 22) rfl)
theorem dX0_isHeiress_35 : decode cX0_isHeiress 35 = .ok (.aload_n 0, 1) := bdX0_isHeiress_0 (35, .aload_n 0, 1) (List.mem_of_getElem? (i := 23) rfl)
theorem dX0_isHeiress_36 : decode cX0_isHeiress 36 = .ok (.getfield 30, 3) := bdX0_isHeiress_0 (36, .getfield 30, 3) (List.mem_of_getElem? (i := 24) rfl)
theorem dX0_isHeiress_39 : decode cX0_isHeiress 39 = .ok (.if_icmp .ge 35, 3) := bdX0_isHeiress_0 (39, .if_icmp .ge 35, 3) (List.mem_of_getElem? (i := 25) rfl)
theorem dX0_isHeiress_42 : decode cX0_isHeiress 42 = .ok (.aload_n 0, 1) := bdX0_isHeiress_0 (42, .aload_n 0, 1) (List.mem_of_getElem? (i := 26) rfl)
theorem dX0_isHeiress_43 : decode cX0_isHeiress 43 = .ok (.getfield 21, 3) := bdX0_isHeiress_0 (43, .getfield 21, 3) (List.mem_of_getElem? (i := 27) rfl)
theorem dX0_isHeiress_46 : decode cX0_isHeiress 46 = .ok (.iload_n 2, 1) := bdX0_isHeiress_0 (46, .iload_n 2, 1) (List.mem_of_getElem? (i := 28) rfl)
theorem dX0_isHeiress_47 : decode cX0_isHeiress 47 = .ok (.iaload, 1) := bdX0_isHeiress_0 (47, .iaload, 1) (List.mem_of_getElem? (i := 29) rfl)
theorem dX0_isHeiress_48 : decode cX0_isHeiress 48 = .ok (.ifCond .ne 20, 3) := bdX0_isHeiress_0 (48, .ifCond .ne 20, 3) (List.mem_of_getElem? (i := 30) rfl)
theorem dX0_isHeiress_51 : decode cX0_isHeiress 51 = .ok (.aload_n 0, 1) := bdX0_isHeiress_0 (51, .aload_n 0, 1) (List.mem_of_getElem? (i := 31) rfl)
theorem dX0_isHeiress_52 : decode cX0_isHeiress 52 = .ok (.getfield 15, 3) := bdX0_isHeiress_0 (52, .getfield 15, 3) (List.mem_of_getElem? (i := 32) rfl)
theorem dX0_isHeiress_55 : decode cX0_isHeiress 55 = .ok (.iload_n 2, 1) := bdX0_isHeiress_0 (55, .iload_n 2, 1) (List.mem_of_getElem? (i := 33) rfl)
theorem dX0_isHeiress_56 : decode cX0_isHeiress 56 = .ok (.iaload, 1) := bdX0_isHeiress_0 (56, .iaload, 1) (List.mem_of_getElem? (i := 34) rfl)
theorem dX0_isHeiress_57 : decode cX0_isHeiress 57 = .ok (.aload_n 0, 1) := bdX0_isHeiress_0 (57, .aload_n 0, 1) (List.mem_of_getElem? (i := 35) rfl)
theorem dX0_isHeiress_58 : decode cX0_isHeiress 58 = .ok (.getfield 15, 3) := bdX0_isHeiress_0 (58, .getfield 15, 3) (List.mem_of_getElem? (i := 36) rfl)
theorem dX0_isHeiress_61 : decode cX0_isHeiress 61 = .ok (.iload_n 1, 1) := bdX0_isHeiress_0 (61, .iload_n 1, 1) (List.mem_of_getElem? (i := 37) rfl)
theorem dX0_isHeiress_62 : decode cX0_isHeiress 62 = .ok (.iaload, 1) := bdX0_isHeiress_0 (62, .iaload, 1) (List.mem_of_getElem? (i := 38) rfl)
theorem dX0_isHeiress_63 : decode cX0_isHeiress 63 = .ok (.if_icmp .ne 5, 3) := bdX0_isHeiress_0 (63, .if_icmp .ne 5, 3) (List.mem_of_getElem? (i := 39) rfl)
theorem bdX0_isHeiress_66 : ∀ q ∈ ([(66, .iconst 0, 1), (67, .ireturn, 1), (68, .iinc 2 1, 3), (71, .goto (-37), 3), (74, .iconst 1, 1), (75, .ireturn, 1)] : List (Nat × Jvm.ClassFile.Instr × Nat)), decode cX0_isHeiress q.1 = .ok q.2 := chk_ok _ 66 _ rfl (by decide +kernel)
theorem dX0_isHeiress_66 : decode cX0_isHeiress 66 = .ok (.iconst 0, 1) := bdX0_isHeiress_66 (66, .iconst 0, 1) (List.mem_of_getElem? (i := 0) rfl)
theorem dX0_isHeiress_67 : decode cX0_isHeiress 67 = .ok (.ireturn, 1) := bdX0_isHeiress_66 (67, .ireturn, 1) (List.mem_of_getElem? (i := 1) rfl)
theorem dX0_isHeiress_68 : decode cX0_isHeiress 68 = .ok (.iinc 2 1, 3) := bdX0_isHeiress_66 (68, .iinc 2 1, 3) (List.mem_of_getElem? (i := 2) rfl)
theorem dX0_isHeiress_71 : decode cX0_isHeiress 71 = .ok (.goto (-37), 3) := bdX0_isHeiress_66 (71, .goto (-37), 3) (List.mem_of_getElem? (i := 3) rfl)
theorem dX0_isHeiress_74 : decode cX0_isHeiress 74 = .ok (.iconst 1, 1) := bdX0_isHeiress_66 (74, .iconst 1, 1) (List.mem_of_getElem? (i := 4) rfl)
theorem dX0_isHeiress_75 : decode cX0_isHeiress 75 = .ok (.ireturn, 1) := bdX0_isHeiress_66 (75, .ireturn, 1) (List.mem_of_getElem? (i := 5) rfl)
def BX0_isHeiress_68 (ln : Nat → Nat) (post : Int32 → HC → Prop) (K34 : HC → Nat → Int32 → Int32 → Prop) (S : HC) (x0 : Nat) (x1 : Int32) (x2 : Int32) : Prop := lt_ (x2 + (1 : Int32)) fun z1 => K34 S x0 x1 z1
def LX0_isHeiress_34 (ln : Nat → Nat) (post : Int32 → HC → Prop) : Nat → HC → Nat → Int32 → Int32 → Prop
  | 0 => fun _ _ _ _ => False
  | n34 + 1 => fun S x0 x1 x2 => lt_ (hI S x0 6) fun z2 => if z2 ≤ x2 then (rb_ .boolean (1 : Int32) (post (1 : Int32) S)) else (dn_ (hR S x0 3) fun b3 => al_ (ln b3) x2 (hI S b3) fun z4 => if z4 = 0 then (dn_ (hR S x0 1) fun b5 => al_ (ln b5) x2 (hI S b5) fun z6 => dn_ (hR S x0 1) fun b7 => al_ (ln b7) x1 (hI S b7) fun z8 => if z6 = z8 then (rb_ .boolean (0 : Int32) (post (0 : Int32) S)) else (BX0_isHeiress_68 ln post (LX0_isHeiress_34 ln post n34) S x0 x1 x2)) else (BX0_isHeiress_68 ln post (LX0_isHeiress_34 ln post n34) S x0 x1 x2))
def BX0_isHeiress_18 (ln : Nat → Nat) (post : Int32 → HC → Prop) (S : HC)  : Prop := rb_ .boolean (0 : Int32) (post (0 : Int32) S)
def wpX0_isHeiress (ln : Nat → Nat) (S : HC) (a0 : Nat) (a1 : Int32) (post : Int32 → HC → Prop) : Prop := wpX0_has ln S a0 a1 fun z9 S => if z9 = 0 then (BX0_isHeiress_18 ln post S) else (dn_ (hR S a0 3) fun b10 => al_ (ln b10) a1 (hI S b10) fun z11 => if z11 = (1 : Int32) then (dn_ (hR S a0 1) fun b12 => al_ (ln b12) a1 (hI S b12) fun z13 => if z13 = (-1 : Int32) then (rb_ .boolean (1 : Int32) (post (1 : Int32) S)) else (∃ n34, LX0_isHeiress_34 ln post n34 S a0 a1 (0 : Int32))) else (BX0_isHeiress_18 ln post S))
abbrev rmX0_isHeiress : Room := { frames := 1, cells := 0, slots := 0, locals := 21 }
set_option maxHeartbeats 4000000 in
set_option maxRecDepth 100000 in
theorem ctX0_isHeiress {l : Launch} {g : GX} {N : Nat} {ln : Nat → Nat} {S : HC} {a0 : Nat} {a1 : Int32} {post : Int32 → HC → Prop} (hr_a0 : a0 < N) (hk_a0 : kd a0 = 0) (h : wpX0_isHeiress ln S a0 a1 post) : Met l yX0_isHeiress (Cond.code yX0_isHeiress prog_2_method_14_code 3 (Option.some Jvm.ClassFile.FieldType.boolean) :: gtbl) rmX0_isHeiress (va_Pc [.ref (gz g + a0), .int a1] (AtP g N ln S)) (QI g N ln post) 0 0 (gF g) := by
  refine m_of (by decide) (Nat.le_of_ble_eq_true rfl) ?_
  intro p e s m below meth c ls F hr I hl
  have hl : lv_has ls 3 [(0, .ref (gz g + a0)), (1, .int a1)] := hl
  unfold wpX0_isHeiress at h
  have hl_34 : ∀ n34 : Nat, ∀ (S : HC) (H : Heap) (locs : List Loc) (ls : Array Slot) (x0 : Nat) (x1 : Int32) (x2 : Int32), x0 < N → kd x0 = 0 → LX0_isHeiress_34 ln post n34 S x0 x1 x2 → Inv g N ln S s H locs → lv_has ls 3 [(0, .ref (gz g + x0)), (1, .int x1), (2, .int x2)] → W p l e rmX0_isHeiress s m ([.ref (gz g + a0), .int a1] : List Value).toArray below meth c H locs 0 0 (MQ below (QI g N ln post) ([.ref (gz g + a0), .int a1] : List Value).toArray s 0 0 (gF g)) (F0 m 34 ls []) := by
    intro n34
    induction n34 with
    | zero =>
      intro S H locs ls x0 x1 x2 hr_x0 hk_x0 h I hl
      exact h.elim
    | succ n34 ih =>
      have hk34 := ih
      have hj_68 : ∀ (S : HC) (H : Heap) (locs : List Loc) (ls : Array Slot) (x0 : Nat) (x1 : Int32) (x2 : Int32), x0 < N → kd x0 = 0 → BX0_isHeiress_68 ln post (LX0_isHeiress_34 ln post n34) S x0 x1 x2 → Inv g N ln S s H locs → lv_has ls 3 [(0, .ref (gz g + x0)), (1, .int x1), (2, .int x2)] → W p l e rmX0_isHeiress s m ([.ref (gz g + a0), .int a1] : List Value).toArray below meth c H locs 0 0 (MQ below (QI g N ln post) ([.ref (gz g + a0), .int a1] : List Value).toArray s 0 0 (gF g)) (F0 m 68 ls []) := by
        intro S H locs ls x0 x1 x2 hr_x0 hk_x0 h I hl
        unfold BX0_isHeiress_68 at h
        obtain ⟨z1, e_z1, h⟩ := lt_x h
        refine lv_iinc (v := z1) (lv' := [(2, .int z1), (0, .ref (gz g + x0)), (1, .int x1)]) F.1 F.2.1 dX0_isHeiress_68 hl (k := 2) rfl (by rw [e_z1]; rfl) (by decide) rfl (fun ls hl => ?_)
        refine lv_goto (tgt := 34) F.1 F.2.1 dX0_isHeiress_71 (by decide) ?_
        exact hk34 S _ _ _ x0 x1 z1 hr_x0 hk_x0 h I (lv_sub hl [1, 2, 0] rfl)
      intro S H locs ls x0 x1 x2 hr_x0 hk_x0 h I hl
      rw [LX0_isHeiress_34] at h
      refine lv_iload_n F.1 F.2.1 dX0_isHeiress_34 rfl (lv_at hl 2 rfl) ?_
      refine lv_aload_n F.1 F.2.1 dX0_isHeiress_35 rfl (lv_at hl 0 rfl) ?_
      refine r_getI F I hr_x0 hk_x0 fX0_30 rfl dX0_isHeiress_36 h (fun z2 h => ?_)
      refine r_icmp_ge (tgt := 74) F dX0_isHeiress_39 (by decide) h (fun h => ?_) (fun h => ?_)
      · refine lv_iconst (v := 1) F.1 F.2.1 dX0_isHeiress_74 (by decide) ?_
        exact r_zreturn F I ⟨hr.1, hr.2.1, trivial⟩ h dX0_isHeiress_75
      · refine lv_aload_n F.1 F.2.1 dX0_isHeiress_42 rfl (lv_at hl 0 rfl) ?_
        refine r_getN F I hr_x0 hk_x0 fX0_21 (f := 9) rfl (by decide) dX0_isHeiress_43 h (fun b3 hr_b3 hk_b3 h => ?_)
        refine lv_iload_n F.1 F.2.1 dX0_isHeiress_46 rfl (lv_at hl 2 rfl) ?_
        refine r_ald F I hr_b3 hk_b3 dX0_isHeiress_47 h (fun z4 h => ?_)
        refine r_if_ne (tgt := 68) F dX0_isHeiress_48 (by decide) h (fun h => ?_) (fun h => ?_)
        · exact hj_68 S _ _ _ x0 x1 x2 hr_x0 hk_x0 h I (lv_sub hl [0, 1, 2] rfl)
        · refine lv_aload_n F.1 F.2.1 dX0_isHeiress_51 rfl (lv_at hl 0 rfl) ?_
          refine r_getN F I hr_x0 hk_x0 fX0_15 (f := 9) rfl (by decide) dX0_isHeiress_52 h (fun b5 hr_b5 hk_b5 h => ?_)
          refine lv_iload_n F.1 F.2.1 dX0_isHeiress_55 rfl (lv_at hl 2 rfl) ?_
          refine r_ald F I hr_b5 hk_b5 dX0_isHeiress_56 h (fun z6 h => ?_)
          refine lv_aload_n F.1 F.2.1 dX0_isHeiress_57 rfl (lv_at hl 0 rfl) ?_
          refine r_getN F I hr_x0 hk_x0 fX0_15 (f := 9) rfl (by decide) dX0_isHeiress_58 h (fun b7 hr_b7 hk_b7 h => ?_)
          refine lv_iload_n F.1 F.2.1 dX0_isHeiress_61 rfl (lv_at hl 1 rfl) ?_
          refine r_ald F I hr_b7 hk_b7 dX0_isHeiress_62 h (fun z8 h => ?_)
          refine r_icmp_ne (tgt := 68) F dX0_isHeiress_63 (by decide) h (fun h => ?_) (fun h => ?_)
          · exact hj_68 S _ _ _ x0 x1 x2 hr_x0 hk_x0 h I (lv_sub hl [0, 1, 2] rfl)
          · refine lv_iconst (v := 0) F.1 F.2.1 dX0_isHeiress_66 (by decide) ?_
            exact r_zreturn F I ⟨hr.1, hr.2.1, trivial⟩ h dX0_isHeiress_67
  have hj_18 : ∀ (S : HC) (H : Heap) (locs : List Loc) (ls : Array Slot), BX0_isHeiress_18 ln post S  → Inv g N ln S s H locs → lv_has ls 3 [] → W p l e rmX0_isHeiress s m ([.ref (gz g + a0), .int a1] : List Value).toArray below meth c H locs 0 0 (MQ below (QI g N ln post) ([.ref (gz g + a0), .int a1] : List Value).toArray s 0 0 (gF g)) (F0 m 18 ls []) := by
    intro S H locs ls h I hl
    unfold BX0_isHeiress_18 at h
    refine lv_iconst (v := 0) F.1 F.2.1 dX0_isHeiress_18 (by decide) ?_
    exact r_zreturn F I ⟨hr.1, hr.2.1, trivial⟩ h dX0_isHeiress_19
  refine lv_aload_n F.1 F.2.1 dX0_isHeiress_0 rfl (lv_at hl 0 rfl) ?_
  refine lv_iload_n F.1 F.2.1 dX0_isHeiress_1 rfl (lv_at hl 1 rfl) ?_
  refine g_I I (run_V (As := [.int a1]) (rest := []) F I hr_a0 hk_a0 (by decide) kX0_52 (ctX0_has hr_a0 hk_a0 h) ⟨rfl, rfl⟩ ⟨Nat.le_of_ble_eq_true rfl, Nat.le_of_ble_eq_true rfl⟩ rfl hl.1 rfl (Nat.le_of_ble_eq_true rfl) ⟨Nat.le_of_ble_eq_true rfl, Nat.le_of_ble_eq_true rfl⟩ dX0_isHeiress_2) (fun z9 S H locs I h => ?_)
  refine r_if_eq (tgt := 18) F dX0_isHeiress_5 (by decide) h (fun h => ?_) (fun h => ?_)
  · exact hj_18 S _ _ _   h I (lv_sub hl [] rfl)
  · refine lv_aload_n F.1 F.2.1 dX0_isHeiress_8 rfl (lv_at hl 0 rfl) ?_
    refine r_getN F I hr_a0 hk_a0 fX0_21 (f := 9) rfl (by decide) dX0_isHeiress_9 h (fun b10 hr_b10 hk_b10 h => ?_)
    refine lv_iload_n F.1 F.2.1 dX0_isHeiress_12 rfl (lv_at hl 1 rfl) ?_
    refine r_ald F I hr_b10 hk_b10 dX0_isHeiress_13 h (fun z11 h => ?_)
    refine lv_iconst (v := 1) F.1 F.2.1 dX0_isHeiress_14 (by decide) ?_
    refine r_icmp_eq (tgt := 20) F dX0_isHeiress_15 (by decide) h (fun h => ?_) (fun h => ?_)
    · refine lv_aload_n F.1 F.2.1 dX0_isHeiress_20 rfl (lv_at hl 0 rfl) ?_
      refine r_getN F I hr_a0 hk_a0 fX0_15 (f := 9) rfl (by decide) dX0_isHeiress_21 h (fun b12 hr_b12 hk_b12 h => ?_)
      refine lv_iload_n F.1 F.2.1 dX0_isHeiress_24 rfl (lv_at hl 1 rfl) ?_
      refine r_ald F I hr_b12 hk_b12 dX0_isHeiress_25 h (fun z13 h => ?_)
      refine lv_iconst (v := -1) F.1 F.2.1 dX0_isHeiress_26 (by decide) ?_
      refine r_icmp_ne (tgt := 32) F dX0_isHeiress_27 (by decide) h (fun h => ?_) (fun h => ?_)
      · refine lv_iconst (v := 0) F.1 F.2.1 dX0_isHeiress_32 (by decide) ?_
        refine lv_istore_n (lv' := [(2, .int (0 : Int32)), (0, .ref (gz g + a0)), (1, .int a1)]) F.1 F.2.1 dX0_isHeiress_33 rfl hl (by decide) rfl (fun ls hl => ?_)
        obtain ⟨n34, h⟩ := h
        exact hl_34 n34 S _ _ _ a0 a1 (0 : Int32) hr_a0 hk_a0 h I (lv_sub hl [1, 2, 0] rfl)
      · refine lv_iconst (v := 1) F.1 F.2.1 dX0_isHeiress_30 (by decide) ?_
        exact r_zreturn F I ⟨hr.1, hr.2.1, trivial⟩ h dX0_isHeiress_31
    · exact hj_18 S _ _ _   h I (lv_sub hl [] rfl)
theorem bdX0_heiresses_0 : ∀ q ∈ ([(0, .iconst 0, 1), (1, .istore_n 1, 1), (2, .iconst 0, 1), (3, .istore_n 2, 1), (4, .iload_n 2, 1), (5, .aload_n 0, 1), (6, .getfield 30, 3), (9, .if_icmp .ge 23, 3), (12, .aload_n 0, 1), (13, .iload_n 2, 1), (14, .invokevirtual 81, 3), (17, .ifCond .eq 9, 3), (20, .iload_n 1, 1), (21, .iconst 1, 1), (22, .iload_n 2, 1), (25, .istore_n 1, 1), (26, .iinc 2 1, 3), (29, .goto (-25), 3), (32, .iload_n 1, 1), (33, .ireturn, 1)] : List (Nat × Jvm.ClassFile.Instr × Nat)), decode cX0_heiresses q.1 = .ok q.2 := chk_ok _ 0 _ rfl (by decide +kernel)
theorem dX0_heiresses_0 : decode cX0_heiresses 0 = .ok (.iconst 0, 1) := bdX0_heiresses_0 (0, .iconst 0, 1) (List.mem_of_getElem? (i := 0) rfl)
theorem dX0_heiresses_1 : decode cX0_heiresses 1 = .ok (.istore_n 1, 1) := bdX0_heiresses_0 (1, .istore_n 1, 1) (List.mem_of_getElem? (i := 1) rfl)
theorem dX0_heiresses_2 : decode cX0_heiresses 2 = .ok (.iconst 0, 1) := bdX0_heiresses_0 (2, .iconst 0, 1) (List.mem_of_getElem? (i := 2) rfl)
theorem dX0_heiresses_3 : decode cX0_heiresses 3 = .ok (.istore_n 2, 1) := bdX0_heiresses_0 (3, .istore_n 2, 1) (List.mem_of_getElem? (i := 3) rfl)
theorem dX0_heiresses_4 : decode cX0_heiresses 4 = .ok (.iload_n 2, 1) := bdX0_heiresses_0 (4, .iload_n 2, 1) (List.mem_of_getElem? (i := 4) rfl)
theorem dX0_heiresses_5 : decode cX0_heiresses 5 = .ok (.aload_n 0, 1) := bdX0_heiresses_0 (5, .aload_n 0, 1) (List.mem_of_getElem? (i := 5) rfl)
theorem dX0_heiresses_6 : decode cX0_heiresses 6 = .ok (.getfield 30, 3) := bdX0_heiresses_0 (6, .getfield 30, 3) (List.mem_of_getElem? (i := 6) rfl)
theorem dX0_heiresses_9 : decode cX0_heiresses 9 = .ok (.if_icmp .ge 23, 3) := bdX0_heiresses_0 (9, .if_icmp .ge 23, 3) (List.mem_of_getElem? (i := 7) rfl)
theorem dX0_heiresses_12 : decode cX0_heiresses 12 = .ok (.aload_n 0, 1) := bdX0_heiresses_0 (12, .aload_n 0, 1) (List.mem_of_getElem? (i := 8) rfl)
theorem dX0_heiresses_13 : decode cX0_heiresses 13 = .ok (.iload_n 2, 1) := bdX0_heiresses_0 (13, .iload_n 2, 1) (List.mem_of_getElem? (i := 9) rfl)
theorem dX0_heiresses_14 : decode cX0_heiresses 14 = .ok (.invokevirtual 81, 3) := bdX0_heiresses_0 (14, .invokevirtual 81, 3) (List.mem_of_getElem? (i := 10) rfl)
theorem dX0_heiresses_17 : decode cX0_heiresses 17 = .ok (.ifCond .eq 9, 3) := bdX0_heiresses_0 (17, .ifCond .eq 9, 3) (List.mem_of_getElem? (i := 11) rfl)
theorem dX0_heiresses_20 : decode cX0_heiresses 20 = .ok (.iload_n 1, 1) := bdX0_heiresses_0 (20, .iload_n 1, 1) (List.mem_of_getElem? (i := 12) rfl)
theorem dX0_heiresses_21 : decode cX0_heiresses 21 = .ok (.iconst 1, 1) := bdX0_heiresses_0 (21, .iconst 1, 1) (List.mem_of_getElem? (i := 13) rfl)
theorem dX0_heiresses_22 : decode cX0_heiresses 22 = .ok (.iload_n 2, 1) := bdX0_heiresses_0 (22, .iload_n 2, 1) (List.mem_of_getElem? (i := 14) rfl)
theorem dX0_heiresses_25 : decode cX0_heiresses 25 = .ok (.istore_n 1, 1) := bdX0_heiresses_0 (25, .istore_n 1, 1) (List.mem_of_getElem? (i := 15) rfl)
theorem dX0_heiresses_26 : decode cX0_heiresses 26 = .ok (.iinc 2 1, 3) := bdX0_heiresses_0 (26, .iinc 2 1, 3) (List.mem_of_getElem? (i := 16) rfl)
theorem dX0_heiresses_29 : decode cX0_heiresses 29 = .ok (.goto (-25), 3) := bdX0_heiresses_0 (29, .goto (-25), 3) (List.mem_of_getElem? (i := 17) rfl)
theorem dX0_heiresses_32 : decode cX0_heiresses 32 = .ok (.iload_n 1, 1) := bdX0_heiresses_0 (32, .iload_n 1, 1) (List.mem_of_getElem? (i := 18) rfl)
theorem dX0_heiresses_33 : decode cX0_heiresses 33 = .ok (.ireturn, 1) := bdX0_heiresses_0 (33, .ireturn, 1) (List.mem_of_getElem? (i := 19) rfl)
theorem dX0_heiresses_23 : decode cX0_heiresses 23 = .ok (.ishl, 1) := by decide +kernel
theorem dX0_heiresses_24 : decode cX0_heiresses 24 = .ok (.ior, 1) := by decide +kernel
theorem kX0_81 : mthV RX0 81 0 yX0_isHeiress prog_2_method_14_code 3 (Option.some Jvm.ClassFile.FieldType.boolean) 1 := ⟨⟨⟨tw_384, tw_61, tw_357⟩, rfl, by decide +kernel⟩, tw_355, tw_356, rfl⟩
def BX0_heiresses_26 (ln : Nat → Nat) (post : Int32 → HC → Prop) (K4 : HC → Nat → Int32 → Int32 → Prop) (S : HC) (x0 : Nat) (x1 : Int32) (x2 : Int32) : Prop := lt_ (x2 + (1 : Int32)) fun z1 => K4 S x0 x1 z1
def LX0_heiresses_4 (ln : Nat → Nat) (post : Int32 → HC → Prop) : Nat → HC → Nat → Int32 → Int32 → Prop
  | 0 => fun _ _ _ _ => False
  | n4 + 1 => fun S x0 x1 x2 => lt_ (hI S x0 6) fun z2 => if z2 ≤ x2 then (post x1 S) else (wpX0_isHeiress ln S x0 x2 fun z3 S => if z3 = 0 then (BX0_heiresses_26 ln post (LX0_heiresses_4 ln post n4) S x0 x1 x2) else (lt_ ((1 : Int32) <<< (x2 &&& 31)) fun z4 => lt_ (x1 ||| z4) fun z5 => BX0_heiresses_26 ln post (LX0_heiresses_4 ln post n4) S x0 z5 x2))
def wpX0_heiresses (ln : Nat → Nat) (S : HC) (a0 : Nat) (post : Int32 → HC → Prop) : Prop := ∃ n4, LX0_heiresses_4 ln post n4 S a0 (0 : Int32) (0 : Int32)
abbrev rmX0_heiresses : Room := { frames := 2, cells := 0, slots := 0, locals := 43 }
set_option maxHeartbeats 4000000 in
set_option maxRecDepth 100000 in
theorem ctX0_heiresses {l : Launch} {g : GX} {N : Nat} {ln : Nat → Nat} {S : HC} {a0 : Nat} {post : Int32 → HC → Prop} (hr_a0 : a0 < N) (hk_a0 : kd a0 = 0) (h : wpX0_heiresses ln S a0 post) : Met l yX0_heiresses (Cond.code yX0_heiresses prog_2_method_15_code 3 (Option.some Jvm.ClassFile.FieldType.int) :: gtbl) rmX0_heiresses (va_Pc [.ref (gz g + a0)] (AtP g N ln S)) (QI g N ln post) 0 0 (gF g) := by
  refine m_of (by decide) (Nat.le_of_ble_eq_true rfl) ?_
  intro p e s m below meth c ls F hr I hl
  have hl : lv_has ls 3 [(0, .ref (gz g + a0))] := hl
  unfold wpX0_heiresses at h
  have hl_4 : ∀ n4 : Nat, ∀ (S : HC) (H : Heap) (locs : List Loc) (ls : Array Slot) (x0 : Nat) (x1 : Int32) (x2 : Int32), x0 < N → kd x0 = 0 → LX0_heiresses_4 ln post n4 S x0 x1 x2 → Inv g N ln S s H locs → lv_has ls 3 [(0, .ref (gz g + x0)), (1, .int x1), (2, .int x2)] → W p l e rmX0_heiresses s m ([.ref (gz g + a0)] : List Value).toArray below meth c H locs 0 0 (MQ below (QI g N ln post) ([.ref (gz g + a0)] : List Value).toArray s 0 0 (gF g)) (F0 m 4 ls []) := by
    intro n4
    induction n4 with
    | zero =>
      intro S H locs ls x0 x1 x2 hr_x0 hk_x0 h I hl
      exact h.elim
    | succ n4 ih =>
      have hk4 := ih
      have hj_26 : ∀ (S : HC) (H : Heap) (locs : List Loc) (ls : Array Slot) (x0 : Nat) (x1 : Int32) (x2 : Int32), x0 < N → kd x0 = 0 → BX0_heiresses_26 ln post (LX0_heiresses_4 ln post n4) S x0 x1 x2 → Inv g N ln S s H locs → lv_has ls 3 [(0, .ref (gz g + x0)), (1, .int x1), (2, .int x2)] → W p l e rmX0_heiresses s m ([.ref (gz g + a0)] : List Value).toArray below meth c H locs 0 0 (MQ below (QI g N ln post) ([.ref (gz g + a0)] : List Value).toArray s 0 0 (gF g)) (F0 m 26 ls []) := by
        intro S H locs ls x0 x1 x2 hr_x0 hk_x0 h I hl
        unfold BX0_heiresses_26 at h
        obtain ⟨z1, e_z1, h⟩ := lt_x h
        refine lv_iinc (v := z1) (lv' := [(2, .int z1), (0, .ref (gz g + x0)), (1, .int x1)]) F.1 F.2.1 dX0_heiresses_26 hl (k := 2) rfl (by rw [e_z1]; rfl) (by decide) rfl (fun ls hl => ?_)
        refine lv_goto (tgt := 4) F.1 F.2.1 dX0_heiresses_29 (by decide) ?_
        exact hk4 S _ _ _ x0 x1 z1 hr_x0 hk_x0 h I (lv_sub hl [1, 2, 0] rfl)
      intro S H locs ls x0 x1 x2 hr_x0 hk_x0 h I hl
      rw [LX0_heiresses_4] at h
      refine lv_iload_n F.1 F.2.1 dX0_heiresses_4 rfl (lv_at hl 2 rfl) ?_
      refine lv_aload_n F.1 F.2.1 dX0_heiresses_5 rfl (lv_at hl 0 rfl) ?_
      refine r_getI F I hr_x0 hk_x0 fX0_30 rfl dX0_heiresses_6 h (fun z2 h => ?_)
      refine r_icmp_ge (tgt := 32) F dX0_heiresses_9 (by decide) h (fun h => ?_) (fun h => ?_)
      · refine lv_iload_n F.1 F.2.1 dX0_heiresses_32 rfl (lv_at hl 1 rfl) ?_
        exact r_ireturn F I ⟨hr.1, hr.2.1, trivial⟩ h dX0_heiresses_33
      · refine lv_aload_n F.1 F.2.1 dX0_heiresses_12 rfl (lv_at hl 0 rfl) ?_
        refine lv_iload_n F.1 F.2.1 dX0_heiresses_13 rfl (lv_at hl 2 rfl) ?_
        refine g_I I (run_V (As := [.int x2]) (rest := []) F I hr_x0 hk_x0 (by decide) kX0_81 (ctX0_isHeiress hr_x0 hk_x0 h) ⟨rfl, rfl⟩ ⟨Nat.le_of_ble_eq_true rfl, Nat.le_of_ble_eq_true rfl⟩ rfl hl.1 rfl (Nat.le_of_ble_eq_true rfl) ⟨Nat.le_of_ble_eq_true rfl, Nat.le_of_ble_eq_true rfl⟩ dX0_heiresses_14) (fun z3 S H locs I h => ?_)
        refine r_if_eq (tgt := 26) F dX0_heiresses_17 (by decide) h (fun h => ?_) (fun h => ?_)
        · exact hj_26 S _ _ _ x0 x1 x2 hr_x0 hk_x0 h I (lv_sub hl [0, 1, 2] rfl)
        · refine lv_iload_n F.1 F.2.1 dX0_heiresses_20 rfl (lv_at hl 1 rfl) ?_
          refine lv_iconst (v := 1) F.1 F.2.1 dX0_heiresses_21 (by decide) ?_
          refine lv_iload_n F.1 F.2.1 dX0_heiresses_22 rfl (lv_at hl 2 rfl) ?_
          refine r_ishl F dX0_heiresses_23 h (fun z4 h => ?_)
          refine r_ior F dX0_heiresses_24 h (fun z5 h => ?_)
          refine lv_istore_n (lv' := [(1, .int z5), (0, .ref (gz g + x0)), (2, .int x2)]) F.1 F.2.1 dX0_heiresses_25 rfl hl (by decide) rfl (fun ls hl => ?_)
          exact hj_26 S _ _ _ x0 z5 x2 hr_x0 hk_x0 h I (lv_sub hl [1, 0, 2] rfl)
  refine lv_iconst (v := 0) F.1 F.2.1 dX0_heiresses_0 (by decide) ?_
  refine lv_istore_n (lv' := [(1, .int (0 : Int32)), (0, .ref (gz g + a0))]) F.1 F.2.1 dX0_heiresses_1 rfl hl (by decide) rfl (fun ls hl => ?_)
  refine lv_iconst (v := 0) F.1 F.2.1 dX0_heiresses_2 (by decide) ?_
  refine lv_istore_n (lv' := [(2, .int (0 : Int32)), (1, .int (0 : Int32)), (0, .ref (gz g + a0))]) F.1 F.2.1 dX0_heiresses_3 rfl hl (by decide) rfl (fun ls hl => ?_)
  obtain ⟨n4, h⟩ := h
  exact hl_4 n4 S _ _ _ a0 (0 : Int32) (0 : Int32) hr_a0 hk_a0 h I (lv_sub hl [2, 1, 0] rfl)
theorem bdX0_bitOf_0 : ∀ q ∈ ([(0, .iload_n 0, 1), (1, .iconst (-1), 1), (2, .if_icmp .ne 7, 3), (5, .iconst 0, 1), (6, .goto 6, 3), (9, .iconst 1, 1), (10, .iload_n 0, 1), (12, .ireturn, 1)] : List (Nat × Jvm.ClassFile.Instr × Nat)), decode cX0_bitOf q.1 = .ok q.2 := chk_ok _ 0 _ rfl (by decide +kernel)
theorem dX0_bitOf_0 : decode cX0_bitOf 0 = .ok (.iload_n 0, 1) := bdX0_bitOf_0 (0, .iload_n 0, 1) (List.mem_of_getElem? (i := 0) rfl)
theorem dX0_bitOf_1 : decode cX0_bitOf 1 = .ok (.iconst (-1), 1) := bdX0_bitOf_0 (1, .iconst (-1), 1) (List.mem_of_getElem? (i := 1) rfl)
theorem dX0_bitOf_2 : decode cX0_bitOf 2 = .ok (.if_icmp .ne 7, 3) := bdX0_bitOf_0 (2, .if_icmp .ne 7, 3) (List.mem_of_getElem? (i := 2) rfl)
theorem dX0_bitOf_5 : decode cX0_bitOf 5 = .ok (.iconst 0, 1) := bdX0_bitOf_0 (5, .iconst 0, 1) (List.mem_of_getElem? (i := 3) rfl)
theorem dX0_bitOf_6 : decode cX0_bitOf 6 = .ok (.goto 6, 3) := bdX0_bitOf_0 (6, .goto 6, 3) (List.mem_of_getElem? (i := 4) rfl)
theorem dX0_bitOf_9 : decode cX0_bitOf 9 = .ok (.iconst 1, 1) := bdX0_bitOf_0 (9, .iconst 1, 1) (List.mem_of_getElem? (i := 5) rfl)
theorem dX0_bitOf_10 : decode cX0_bitOf 10 = .ok (.iload_n 0, 1) := bdX0_bitOf_0 (10, .iload_n 0, 1) (List.mem_of_getElem? (i := 6) rfl)
theorem dX0_bitOf_12 : decode cX0_bitOf 12 = .ok (.ireturn, 1) := bdX0_bitOf_0 (12, .ireturn, 1) (List.mem_of_getElem? (i := 7) rfl)
theorem dX0_bitOf_11 : decode cX0_bitOf 11 = .ok (.ishl, 1) := by decide +kernel
def wpX0_bitOf (ln : Nat → Nat) (S : HC) (a0 : Int32) (post : Int32 → HC → Prop) : Prop := if a0 = (-1 : Int32) then (post (0 : Int32) S) else (lt_ ((1 : Int32) <<< (a0 &&& 31)) fun z1 => post z1 S)
abbrev rmX0_bitOf : Room := { frames := 0, cells := 0, slots := 0, locals := 0 }
set_option maxHeartbeats 4000000 in
set_option maxRecDepth 100000 in
theorem ctX0_bitOf {l : Launch} {g : GX} {N : Nat} {ln : Nat → Nat} {S : HC} {a0 : Int32} {post : Int32 → HC → Prop} (h : wpX0_bitOf ln S a0 post) : Met l yX0_bitOf (Cond.code yX0_bitOf prog_2_method_17_code 1 (Option.some Jvm.ClassFile.FieldType.int) :: gtbl) rmX0_bitOf (va_Pc [.int a0] (AtP g N ln S)) (QI g N ln post) 0 0 (gF g) := by
  refine m_of (by decide) (Nat.le_of_ble_eq_true rfl) ?_
  intro p e s m below meth c ls F hr I hl
  have hl : lv_has ls 1 [(0, .int a0)] := hl
  unfold wpX0_bitOf at h
  refine lv_iload_n F.1 F.2.1 dX0_bitOf_0 rfl (lv_at hl 0 rfl) ?_
  refine lv_iconst (v := -1) F.1 F.2.1 dX0_bitOf_1 (by decide) ?_
  refine r_icmp_ne (tgt := 9) F dX0_bitOf_2 (by decide) h (fun h => ?_) (fun h => ?_)
  · refine lv_iconst (v := 1) F.1 F.2.1 dX0_bitOf_9 (by decide) ?_
    refine lv_iload_n F.1 F.2.1 dX0_bitOf_10 rfl (lv_at hl 0 rfl) ?_
    refine r_ishl F dX0_bitOf_11 h (fun z1 h => ?_)
    exact r_ireturn F I ⟨hr.1, hr.2.1, trivial⟩ h dX0_bitOf_12
  · refine lv_iconst (v := 0) F.1 F.2.1 dX0_bitOf_5 (by decide) ?_
    refine lv_goto (tgt := 12) F.1 F.2.1 dX0_bitOf_6 (by decide) ?_
    exact r_ireturn F I ⟨hr.1, hr.2.1, trivial⟩ h dX0_bitOf_12
theorem bdX0_oldestFounder_0 : ∀ q ∈ ([(0, .iconst 1, 1), (1, .iload_n 1, 1), (3, .istore_n 3, 1), (4, .iconst (-1), 1), (5, .istore 4, 2), (7, .iload_n 1, 1), (8, .istore 5, 2), (10, .iload 5, 2), (12, .ifCond .lt 78, 3), (15, .aload_n 0, 1), (16, .iload 5, 2), (18, .invokevirtual 52, 3), (21, .ifCond .eq 63, 3), (24, .iload_n 3, 1), (25, .iload 5, 2), (28, .iconst 1, 1), (29, .iand, 1), (30, .iconst 1, 1), (31, .if_icmp .ne 53, 3), (34, .aload_n 0, 1), (35, .getfield 15, 3), (38, .iload 5, 2), (40, .iaload, 1), (41, .iconst (-1), 1), (42, .if_icmp .ne 18, 3), (45, .aload_n 0, 1), (46, .getfield 24, 3), (49, .iload 5, 2), (51, .iaload, 1), (52, .iload_n 2, 1), (53, .if_icmp .ne 7, 3), (56, .iload 5, 2), (58, .istore 4, 2), (60, .iload_n 3, 1), (61, .aload_n 0, 1), (62, .getfield 15, 3), (65, .iload 5, 2), (67, .iaload, 1), (68, .invokestatic 84, 3), (71, .aload_n 0, 1)] : List (Nat × Jvm.ClassFile.Instr × Nat)), decode cX0_oldestFounder q.1 = .ok q.2 := chk_ok _ 0 _ rfl (by decide +kernel)
theorem dX0_oldestFounder_0 : decode cX0_oldestFounder 0 = .ok (.iconst 1, 1) := bdX0_oldestFounder_0 (0, .iconst 1, 1) (List.mem_of_getElem? (i := 0) rfl)
theorem dX0_oldestFounder_1 : decode cX0_oldestFounder 1 = .ok (.iload_n 1, 1) := bdX0_oldestFounder_0 (1, .iload_n 1, 1) (List.mem_of_getElem? (i := 1) rfl)
theorem dX0_oldestFounder_3 : decode cX0_oldestFounder 3 = .ok (.istore_n 3, 1) := bdX0_oldestFounder_0 (3, .istore_n 3, 1) (List.mem_of_getElem? (i := 2) rfl)
theorem dX0_oldestFounder_4 : decode cX0_oldestFounder 4 = .ok (.iconst (-1), 1) := bdX0_oldestFounder_0 (4, .iconst (-1), 1) (List.mem_of_getElem? (i := 3) rfl)
theorem dX0_oldestFounder_5 : decode cX0_oldestFounder 5 = .ok (.istore 4, 2) := bdX0_oldestFounder_0 (5, .istore 4, 2) (List.mem_of_getElem? (i := 4) rfl)
theorem dX0_oldestFounder_7 : decode cX0_oldestFounder 7 = .ok (.iload_n 1, 1) := bdX0_oldestFounder_0 (7, .iload_n 1, 1) (List.mem_of_getElem? (i := 5) rfl)
theorem dX0_oldestFounder_8 : decode cX0_oldestFounder 8 = .ok (.istore 5, 2) := bdX0_oldestFounder_0 (8, .istore 5, 2) (List.mem_of_getElem? (i := 6) rfl)
theorem dX0_oldestFounder_10 : decode cX0_oldestFounder 10 = .ok (.iload 5, 2) := bdX0_oldestFounder_0 (10, .iload 5, 2) (List.mem_of_getElem? (i := 7) rfl)
theorem dX0_oldestFounder_12 : decode cX0_oldestFounder 12 = .ok (.ifCond .lt 78, 3) := bdX0_oldestFounder_0 (12, .ifCond .lt 78, 3) (List.mem_of_getElem? (i := 8) rfl)
theorem dX0_oldestFounder_15 : decode cX0_oldestFounder 15 = .ok (.aload_n 0, 1) := bdX0_oldestFounder_0 (15, .aload_n 0, 1) (List.mem_of_getElem? (i := 9) rfl)
theorem dX0_oldestFounder_16 : decode cX0_oldestFounder 16 = .ok (.iload 5, 2) := bdX0_oldestFounder_0 (16, .iload 5, 2) (List.mem_of_getElem? (i := 10) rfl)
theorem dX0_oldestFounder_18 : decode cX0_oldestFounder 18 = .ok (.invokevirtual 52, 3) := bdX0_oldestFounder_0 (18, .invokevirtual 52, 3) (List.mem_of_getElem? (i := 11) rfl)
theorem dX0_oldestFounder_21 : decode cX0_oldestFounder 21 = .ok (.ifCond .eq 63, 3) := bdX0_oldestFounder_0 (21, .ifCond .eq 63, 3) (List.mem_of_getElem? (i := 12) rfl)
theorem dX0_oldestFounder_24 : decode cX0_oldestFounder 24 = .ok (.iload_n 3, 1) := bdX0_oldestFounder_0 (24, .iload_n 3, 1) (List.mem_of_getElem? (i := 13) rfl)
theorem dX0_oldestFounder_25 : decode cX0_oldestFounder 25 = .ok (.iload 5, 2) := bdX0_oldestFounder_0 (25, .iload 5, 2) (List.mem_of_getElem? (i := 14) rfl)
theorem dX0_oldestFounder_28 : decode cX0_oldestFounder 28 = .ok (.iconst 1, 1) := bdX0_oldestFounder_0 (28, .iconst 1, 1) (List.mem_of_getElem? (i := 15) rfl)
theorem dX0_oldestFounder_29 : decode cX0_oldestFounder 29 = .ok (.iand, 1) := bdX0_oldestFounder_0 (29, .iand, 1) (List.mem_of_getElem? (i := 16) rfl)
theorem dX0_oldestFounder_30 : decode cX0_oldestFounder 30 = .ok (.iconst 1, 1) := bdX0_oldestFounder_0 (30, .iconst 1, 1) (List.mem_of_getElem? (i := 17) rfl)
theorem dX0_oldestFounder_31 : decode cX0_oldestFounder 31 = .ok (.if_icmp .ne 53, 3) := bdX0_oldestFounder_0 (31, .if_icmp .ne 53, 3) (List.mem_of_getElem? (i := 18) rfl)
theorem dX0_oldestFounder_34 : decode cX0_oldestFounder 34 = .ok (.aload_n 0, 1) := bdX0_oldestFounder_0 (34, .aload_n 0, 1) (List.mem_of_getElem? (i := 19) rfl)
theorem dX0_oldestFounder_35 : decode cX0_oldestFounder 35 = .ok (.getfield 15, 3) := bdX0_oldestFounder_0 (35, .getfield 15, 3) (List.mem_of_getElem? (i := 20) rfl)
theorem dX0_oldestFounder_38 : decode cX0_oldestFounder 38 = .ok (.iload 5, 2) := bdX0_oldestFounder_0 (38, .iload 5, 2) (List.mem_of_getElem? (i := 21) rfl)
theorem dX0_oldestFounder_40 : decode cX0_oldestFounder 40 = .ok (.iaload, 1) := bdX0_oldestFounder_0 (40, .iaload, 1) (List.mem_of_getElem? (i := 22) rfl)
theorem dX0_oldestFounder_41 : decode cX0_oldestFounder 41 = .ok (.iconst (-1), 1) := bdX0_oldestFounder_0 (41, .iconst (-1), 1) (List.mem_of_getElem? (i := 23) rfl)
theorem dX0_oldestFounder_42 : decode cX0_oldestFounder 42 = .ok (.if_icmp .ne 18, 3) := bdX0_oldestFounder_0 (42, .if_icmp .ne 18, 3) (List.mem_of_getElem? (i := 24) rfl)
theorem dX0_oldestFounder_45 : decode cX0_oldestFounder 45 = .ok (.aload_n 0, 1) := bdX0_oldestFounder_0 (45, .aload_n 0, 1) (List.mem_of_getElem? (i := 25) rfl)
theorem dX0_oldestFounder_46 : decode cX0_oldestFounder 46 = .ok (.getfield 24, 3) := bdX0_oldestFounder_0 (46, .getfield 24, 3) (List.mem_of_getElem? (i := 26) rfl)
theorem dX0_oldestFounder_49 : decode cX0_oldestFounder 49 = .ok (.iload 5, 2) := bdX0_oldestFounder_0 (49, .iload 5, 2) (List.mem_of_getElem? (i := 27) rfl)
theorem dX0_oldestFounder_51 : decode cX0_oldestFounder 51 = .ok (.iaload, 1) := bdX0_oldestFounder_0 (51, .iaload, 1) (List.mem_of_getElem? (i := 28) rfl)
theorem dX0_oldestFounder_52 : decode cX0_oldestFounder 52 = .ok (.iload_n 2, 1) := bdX0_oldestFounder_0 (52, .iload_n 2, 1) (List.mem_of_getElem? (i := 29) rfl)
theorem dX0_oldestFounder_53 : decode cX0_oldestFounder 53 = .ok (.if_icmp .ne 7, 3) := bdX0_oldestFounder_0 (53, .if_icmp .ne 7, 3) (List.mem_of_getElem? (i := 30) rfl)
theorem dX0_oldestFounder_56 : decode cX0_oldestFounder 56 = .ok (.iload 5, 2) := bdX0_oldestFounder_0 (56, .iload 5, 2) (List.mem_of_getElem? (i := 31) rfl)
theorem dX0_oldestFounder_58 : decode cX0_oldestFounder 58 = .ok (.istore 4, 2) := bdX0_oldestFounder_0 (58, .istore 4, 2) (List.mem_of_getElem? (i := 32) rfl)
theorem dX0_oldestFounder_60 : decode cX0_oldestFounder 60 = .ok (.iload_n 3, 1) := bdX0_oldestFounder_0 (60, .iload_n 3, 1) (List.mem_of_getElem? (i := 33) rfl)
theorem dX0_oldestFounder_61 : decode cX0_oldestFounder 61 = .ok (.aload_n 0, 1) := bdX0_oldestFounder_0 (61, .aload_n 0, 1) (List.mem_of_getElem? (i := 34) rfl)
theorem dX0_oldestFounder_62 : decode cX0_oldestFounder 62 = .ok (.getfield 15, 3) := bdX0_oldestFounder_0 (62, .getfield 15, 3) (List.mem_of_getElem? (i := 35) rfl)
theorem dX0_oldestFounder_65 : decode cX0_oldestFounder 65 = .ok (.iload 5, 2) := bdX0_oldestFounder_0 (65, .iload 5, 2) (List.mem_of_getElem? (i := 36) rfl)
theorem dX0_oldestFounder_67 : decode cX0_oldestFounder 67 = .ok (.iaload, 1) := bdX0_oldestFounder_0 (67, .iaload, 1) (List.mem_of_getElem? (i := 37) rfl)
theorem dX0_oldestFounder_68 : decode cX0_oldestFounder 68 = .ok (.invokestatic 84, 3) := bdX0_oldestFounder_0 (68, .invokestatic 84, 3) (List.mem_of_getElem? (i := 38) rfl)
theorem dX0_oldestFounder_71 : decode cX0_oldestFounder 71 = .ok (.aload_n 0, 1) := bdX0_oldestFounder_0 (71, .aload_n 0, 1) (List.mem_of_getElem? (i := 39) rfl)
theorem bdX0_oldestFounder_72 : ∀ q ∈ ([(72, .getfield 18, 3), (75, .iload 5, 2), (77, .iaload, 1), (78, .invokestatic 84, 3), (83, .istore_n 3, 1), (84, .iinc 5 (-1), 3), (87, .goto (-77), 3), (90, .iload 4, 2), (92, .ireturn, 1)] : List (Nat × Jvm.ClassFile.Instr × Nat)), decode cX0_oldestFounder q.1 = .ok q.2 := chk_ok _ 72 _ rfl (by decide +kernel)
theorem dX0_oldestFounder_72 : decode cX0_oldestFounder 72 = .ok (.getfield 18, 3) := bdX0_oldestFounder_72 (72, .getfield 18, 3) (List.mem_of_getElem? (i := 0) rfl)
theorem dX0_oldestFounder_75 : decode cX0_oldestFounder 75 = .ok (.iload 5, 2) := bdX0_oldestFounder_72 (75, .iload 5, 2) (List.mem_of_getElem? (i := 1) rfl)
theorem dX0_oldestFounder_77 : decode cX0_oldestFounder 77 = .ok (.iaload, 1) := bdX0_oldestFounder_72 (77, .iaload, 1) (List.mem_of_getElem? (i := 2) rfl)
theorem dX0_oldestFounder_78 : decode cX0_oldestFounder 78 = .ok (.invokestatic 84, 3) := bdX0_oldestFounder_72 (78, .invokestatic 84, 3) (List.mem_of_getElem? (i := 3) rfl)
theorem dX0_oldestFounder_83 : decode cX0_oldestFounder 83 = .ok (.istore_n 3, 1) := bdX0_oldestFounder_72 (83, .istore_n 3, 1) (List.mem_of_getElem? (i := 4) rfl)
theorem dX0_oldestFounder_84 : decode cX0_oldestFounder 84 = .ok (.iinc 5 (-1), 3) := bdX0_oldestFounder_72 (84, .iinc 5 (-1), 3) (List.mem_of_getElem? (i := 5) rfl)
theorem dX0_oldestFounder_87 : decode cX0_oldestFounder 87 = .ok (.goto (-77), 3) := bdX0_oldestFounder_72 (87, .goto (-77), 3) (List.mem_of_getElem? (i := 6) rfl)
theorem dX0_oldestFounder_90 : decode cX0_oldestFounder 90 = .ok (.iload 4, 2) := bdX0_oldestFounder_72 (90, .iload 4, 2) (List.mem_of_getElem? (i := 7) rfl)
theorem dX0_oldestFounder_92 : decode cX0_oldestFounder 92 = .ok (.ireturn, 1) := bdX0_oldestFounder_72 (92, .ireturn, 1) (List.mem_of_getElem? (i := 8) rfl)
theorem budX0_oldestFounder_2 : ∀ q ∈ ([(2, .ok (.ishl, 1)), (27, .ok (.ishr, 1)), (81, .ok (.ior, 1)), (82, .ok (.ior, 1))] : List (Nat × Except Jvm.ClassFile.DecodeError (Jvm.ClassFile.Instr × Nat))), decode cX0_oldestFounder q.1 = q.2 := by decide +kernel
theorem dX0_oldestFounder_2 : decode cX0_oldestFounder 2 = .ok (.ishl, 1) := budX0_oldestFounder_2 (2, .ok (.ishl, 1)) (List.mem_of_getElem? (i := 0) rfl)
theorem dX0_oldestFounder_27 : decode cX0_oldestFounder 27 = .ok (.ishr, 1) := budX0_oldestFounder_2 (27, .ok (.ishr, 1)) (List.mem_of_getElem? (i := 1) rfl)
theorem dX0_oldestFounder_81 : decode cX0_oldestFounder 81 = .ok (.ior, 1) := budX0_oldestFounder_2 (81, .ok (.ior, 1)) (List.mem_of_getElem? (i := 2) rfl)
theorem dX0_oldestFounder_82 : decode cX0_oldestFounder 82 = .ok (.ior, 1) := budX0_oldestFounder_2 (82, .ok (.ior, 1)) (List.mem_of_getElem? (i := 3) rfl)
theorem kX0_84 : mthS RX0 84 yX0_bitOf prog_2_method_17_code 1 (Option.some Jvm.ClassFile.FieldType.int) 1 := ⟨⟨⟨tw_531, tw_61, tw_533⟩, rfl, by decide +kernel⟩, tw_532⟩
def BX0_oldestFounder_84 (ln : Nat → Nat) (post : Int32 → HC → Prop) (K10 : HC → Nat → Int32 → Int32 → Int32 → Int32 → Prop) (S : HC) (x0 : Nat) (x2 : Int32) (x3 : Int32) (x4 : Int32) (x5 : Int32) : Prop := lt_ (x5 + (-1 : Int32)) fun z1 => K10 S x0 x2 x3 x4 z1
def BX0_oldestFounder_60 (ln : Nat → Nat) (post : Int32 → HC → Prop) (K10 : HC → Nat → Int32 → Int32 → Int32 → Int32 → Prop) (S : HC) (x0 : Nat) (x2 : Int32) (x3 : Int32) (x4 : Int32) (x5 : Int32) : Prop := dn_ (hR S x0 1) fun b2 => al_ (ln b2) x5 (hI S b2) fun z3 => wpX0_bitOf ln S z3 fun z4 S => dn_ (hR S x0 2) fun b5 => al_ (ln b5) x5 (hI S b5) fun z6 => wpX0_bitOf ln S z6 fun z7 S => lt_ (z4 ||| z7) fun z8 => lt_ (x3 ||| z8) fun z9 => BX0_oldestFounder_84 ln post K10 S x0 x2 z9 x4 x5
def LX0_oldestFounder_10 (ln : Nat → Nat) (post : Int32 → HC → Prop) : Nat → HC → Nat → Int32 → Int32 → Int32 → Int32 → Prop
  | 0 => fun _ _ _ _ _ _ => False
  | n10 + 1 => fun S x0 x2 x3 x4 x5 => if x5 < 0 then (post x4 S) else (wpX0_has ln S x0 x5 fun z10 S => if z10 = 0 then (BX0_oldestFounder_84 ln post (LX0_oldestFounder_10 ln post n10) S x0 x2 x3 x4 x5) else (lt_ (x3 >>> (x5 &&& 31)) fun z11 => lt_ (z11 &&& (1 : Int32)) fun z12 => if z12 = (1 : Int32) then (dn_ (hR S x0 1) fun b13 => al_ (ln b13) x5 (hI S b13) fun z14 => if z14 = (-1 : Int32) then (dn_ (hR S x0 4) fun b15 => al_ (ln b15) x5 (hI S b15) fun z16 => if z16 = x2 then (BX0_oldestFounder_60 ln post (LX0_oldestFounder_10 ln post n10) S x0 x2 x3 x5 x5) else (BX0_oldestFounder_60 ln post (LX0_oldestFounder_10 ln post n10) S x0 x2 x3 x4 x5)) else (BX0_oldestFounder_60 ln post (LX0_oldestFounder_10 ln post n10) S x0 x2 x3 x4 x5)) else (BX0_oldestFounder_84 ln post (LX0_oldestFounder_10 ln post n10) S x0 x2 x3 x4 x5)))
def wpX0_oldestFounder (ln : Nat → Nat) (S : HC) (a0 : Nat) (a1 : Int32) (a2 : Int32) (post : Int32 → HC → Prop) : Prop := lt_ ((1 : Int32) <<< (a1 &&& 31)) fun z17 => ∃ n10, LX0_oldestFounder_10 ln post n10 S a0 a2 z17 (-1 : Int32) a1
abbrev rmX0_oldestFounder : Room := { frames := 1, cells := 0, slots := 0, locals := 21 }
set_option maxHeartbeats 4000000 in
set_option maxRecDepth 100000 in
theorem ctX0_oldestFounder {l : Launch} {g : GX} {N : Nat} {ln : Nat → Nat} {S : HC} {a0 : Nat} {a1 : Int32} {a2 : Int32} {post : Int32 → HC → Prop} (hr_a0 : a0 < N) (hk_a0 : kd a0 = 0) (h : wpX0_oldestFounder ln S a0 a1 a2 post) : Met l yX0_oldestFounder (Cond.code yX0_oldestFounder prog_2_method_16_code 6 (Option.some Jvm.ClassFile.FieldType.int) :: gtbl) rmX0_oldestFounder (va_Pc [.ref (gz g + a0), .int a1, .int a2] (AtP g N ln S)) (QI g N ln post) 0 0 (gF g) := by
  refine m_of (by decide) (Nat.le_of_ble_eq_true rfl) ?_
  intro p e s m below meth c ls F hr I hl
  have hl : lv_has ls 6 [(0, .ref (gz g + a0)), (1, .int a1), (2, .int a2)] := hl
  unfold wpX0_oldestFounder at h
  have hl_10 : ∀ n10 : Nat, ∀ (S : HC) (H : Heap) (locs : List Loc) (ls : Array Slot) (x0 : Nat) (x2 : Int32) (x3 : Int32) (x4 : Int32) (x5 : Int32), x0 < N → kd x0 = 0 → LX0_oldestFounder_10 ln post n10 S x0 x2 x3 x4 x5 → Inv g N ln S s H locs → lv_has ls 6 [(0, .ref (gz g + x0)), (2, .int x2), (3, .int x3), (4, .int x4), (5, .int x5)] → W p l e rmX0_oldestFounder s m ([.ref (gz g + a0), .int a1, .int a2] : List Value).toArray below meth c H locs 0 0 (MQ below (QI g N ln post) ([.ref (gz g + a0), .int a1, .int a2] : List Value).toArray s 0 0 (gF g)) (F0 m 10 ls []) := by
    intro n10
    induction n10 with
    | zero =>
      intro S H locs ls x0 x2 x3 x4 x5 hr_x0 hk_x0 h I hl
      exact h.elim
    | succ n10 ih =>
      have hk10 := ih
      have hj_84 : ∀ (S : HC) (H : Heap) (locs : List Loc) (ls : Array Slot) (x0 : Nat) (x2 : Int32) (x3 : Int32) (x4 : Int32) (x5 : Int32), x0 < N → kd x0 = 0 → BX0_oldestFounder_84 ln post (LX0_oldestFounder_10 ln post n10) S x0 x2 x3 x4 x5 → Inv g N ln S s H locs → lv_has ls 6 [(0, .ref (gz g + x0)), (2, .int x2), (3, .int x3), (4, .int x4), (5, .int x5)] → W p l e rmX0_oldestFounder s m ([.ref (gz g + a0), .int a1, .int a2] : List Value).toArray below meth c H locs 0 0 (MQ below (QI g N ln post) ([.ref (gz g + a0), .int a1, .int a2] : List Value).toArray s 0 0 (gF g)) (F0 m 84 ls []) := by
        intro S H locs ls x0 x2 x3 x4 x5 hr_x0 hk_x0 h I hl
        unfold BX0_oldestFounder_84 at h
        obtain ⟨z1, e_z1, h⟩ := lt_x h
        refine lv_iinc (v := z1) (lv' := [(5, .int z1), (0, .ref (gz g + x0)), (2, .int x2), (3, .int x3), (4, .int x4)]) F.1 F.2.1 dX0_oldestFounder_84 hl (k := 4) rfl (by rw [e_z1]; rfl) (by decide) rfl (fun ls hl => ?_)
        refine lv_goto (tgt := 10) F.1 F.2.1 dX0_oldestFounder_87 (by decide) ?_
        exact hk10 S _ _ _ x0 x2 x3 x4 z1 hr_x0 hk_x0 h I (lv_sub hl [1, 2, 3, 4, 0] rfl)
      have hj_60 : ∀ (S : HC) (H : Heap) (locs : List Loc) (ls : Array Slot) (x0 : Nat) (x2 : Int32) (x3 : Int32) (x4 : Int32) (x5 : Int32), x0 < N → kd x0 = 0 → BX0_oldestFounder_60 ln post (LX0_oldestFounder_10 ln post n10) S x0 x2 x3 x4 x5 → Inv g N ln S s H locs → lv_has ls 6 [(0, .ref (gz g + x0)), (2, .int x2), (3, .int x3), (4, .int x4), (5, .int x5)] → W p l e rmX0_oldestFounder s m ([.ref (gz g + a0), .int a1, .int a2] : List Value).toArray below meth c H locs 0 0 (MQ below (QI g N ln post) ([.ref (gz g + a0), .int a1, .int a2] : List Value).toArray s 0 0 (gF g)) (F0 m 60 ls []) := by
        intro S H locs ls x0 x2 x3 x4 x5 hr_x0 hk_x0 h I hl
        unfold BX0_oldestFounder_60 at h
        refine lv_iload_n F.1 F.2.1 dX0_oldestFounder_60 rfl (lv_at hl 2 rfl) ?_
        refine lv_aload_n F.1 F.2.1 dX0_oldestFounder_61 rfl (lv_at hl 0 rfl) ?_
        refine r_getN F I hr_x0 hk_x0 fX0_15 (f := 9) rfl (by decide) dX0_oldestFounder_62 h (fun b2 hr_b2 hk_b2 h => ?_)
        refine lv_iload F.1 F.2.1 dX0_oldestFounder_65 (lv_at hl 4 rfl) ?_
        refine r_ald F I hr_b2 hk_b2 dX0_oldestFounder_67 h (fun z3 h => ?_)
        refine g_I I (run_S (As := [.int z3]) (rest := [.int x3]) F I kX0_84 (ctX0_bitOf h) ⟨rfl, rfl⟩ ⟨Nat.le_of_ble_eq_true rfl, Nat.le_of_ble_eq_true rfl⟩ rfl hl.1 rfl (Nat.le_of_ble_eq_true rfl) ⟨Nat.le_of_ble_eq_true rfl, Nat.le_of_ble_eq_true rfl⟩ dX0_oldestFounder_68) (fun z4 S H locs I h => ?_)
        refine lv_aload_n F.1 F.2.1 dX0_oldestFounder_71 rfl (lv_at hl 0 rfl) ?_
        refine r_getN F I hr_x0 hk_x0 fX0_18 (f := 9) rfl (by decide) dX0_oldestFounder_72 h (fun b5 hr_b5 hk_b5 h => ?_)
        refine lv_iload F.1 F.2.1 dX0_oldestFounder_75 (lv_at hl 4 rfl) ?_
        refine r_ald F I hr_b5 hk_b5 dX0_oldestFounder_77 h (fun z6 h => ?_)
        refine g_I I (run_S (As := [.int z6]) (rest := [.int z4, .int x3]) F I kX0_84 (ctX0_bitOf h) ⟨rfl, rfl⟩ ⟨Nat.le_of_ble_eq_true rfl, Nat.le_of_ble_eq_true rfl⟩ rfl hl.1 rfl (Nat.le_of_ble_eq_true rfl) ⟨Nat.le_of_ble_eq_true rfl, Nat.le_of_ble_eq_true rfl⟩ dX0_oldestFounder_78) (fun z7 S H locs I h => ?_)
        refine r_ior F dX0_oldestFounder_81 h (fun z8 h => ?_)
        refine r_ior F dX0_oldestFounder_82 h (fun z9 h => ?_)
        refine lv_istore_n (lv' := [(3, .int z9), (0, .ref (gz g + x0)), (2, .int x2), (4, .int x4), (5, .int x5)]) F.1 F.2.1 dX0_oldestFounder_83 rfl hl (by decide) rfl (fun ls hl => ?_)
        exact hj_84 S _ _ _ x0 x2 z9 x4 x5 hr_x0 hk_x0 h I (lv_sub hl [1, 2, 0, 3, 4] rfl)
      intro S H locs ls x0 x2 x3 x4 x5 hr_x0 hk_x0 h I hl
      rw [LX0_oldestFounder_10] at h
      refine lv_iload F.1 F.2.1 dX0_oldestFounder_10 (lv_at hl 4 rfl) ?_
      refine r_if_lt (tgt := 90) F dX0_oldestFounder_12 (by decide) h (fun h => ?_) (fun h => ?_)
      · refine lv_iload F.1 F.2.1 dX0_oldestFounder_90 (lv_at hl 3 rfl) ?_
        exact r_ireturn F I ⟨hr.1, hr.2.1, trivial⟩ h dX0_oldestFounder_92
      · refine lv_aload_n F.1 F.2.1 dX0_oldestFounder_15 rfl (lv_at hl 0 rfl) ?_
        refine lv_iload F.1 F.2.1 dX0_oldestFounder_16 (lv_at hl 4 rfl) ?_
        refine g_I I (run_V (As := [.int x5]) (rest := []) F I hr_x0 hk_x0 (by decide) kX0_52 (ctX0_has hr_x0 hk_x0 h) ⟨rfl, rfl⟩ ⟨Nat.le_of_ble_eq_true rfl, Nat.le_of_ble_eq_true rfl⟩ rfl hl.1 rfl (Nat.le_of_ble_eq_true rfl) ⟨Nat.le_of_ble_eq_true rfl, Nat.le_of_ble_eq_true rfl⟩ dX0_oldestFounder_18) (fun z10 S H locs I h => ?_)
        refine r_if_eq (tgt := 84) F dX0_oldestFounder_21 (by decide) h (fun h => ?_) (fun h => ?_)
        · exact hj_84 S _ _ _ x0 x2 x3 x4 x5 hr_x0 hk_x0 h I (lv_sub hl [0, 1, 2, 3, 4] rfl)
        · refine lv_iload_n F.1 F.2.1 dX0_oldestFounder_24 rfl (lv_at hl 2 rfl) ?_
          refine lv_iload F.1 F.2.1 dX0_oldestFounder_25 (lv_at hl 4 rfl) ?_
          refine r_ishr F dX0_oldestFounder_27 h (fun z11 h => ?_)
          refine lv_iconst (v := 1) F.1 F.2.1 dX0_oldestFounder_28 (by decide) ?_
          refine r_iand F dX0_oldestFounder_29 h (fun z12 h => ?_)
          refine lv_iconst (v := 1) F.1 F.2.1 dX0_oldestFounder_30 (by decide) ?_
          refine r_icmp_ne (tgt := 84) F dX0_oldestFounder_31 (by decide) h (fun h => ?_) (fun h => ?_)
          · exact hj_84 S _ _ _ x0 x2 x3 x4 x5 hr_x0 hk_x0 h I (lv_sub hl [0, 1, 2, 3, 4] rfl)
          · refine lv_aload_n F.1 F.2.1 dX0_oldestFounder_34 rfl (lv_at hl 0 rfl) ?_
            refine r_getN F I hr_x0 hk_x0 fX0_15 (f := 9) rfl (by decide) dX0_oldestFounder_35 h (fun b13 hr_b13 hk_b13 h => ?_)
            refine lv_iload F.1 F.2.1 dX0_oldestFounder_38 (lv_at hl 4 rfl) ?_
            refine r_ald F I hr_b13 hk_b13 dX0_oldestFounder_40 h (fun z14 h => ?_)
            refine lv_iconst (v := -1) F.1 F.2.1 dX0_oldestFounder_41 (by decide) ?_
            refine r_icmp_ne (tgt := 60) F dX0_oldestFounder_42 (by decide) h (fun h => ?_) (fun h => ?_)
            · exact hj_60 S _ _ _ x0 x2 x3 x4 x5 hr_x0 hk_x0 h I (lv_sub hl [0, 1, 2, 3, 4] rfl)
            · refine lv_aload_n F.1 F.2.1 dX0_oldestFounder_45 rfl (lv_at hl 0 rfl) ?_
              refine r_getN F I hr_x0 hk_x0 fX0_24 (f := 9) rfl (by decide) dX0_oldestFounder_46 h (fun b15 hr_b15 hk_b15 h => ?_)
              refine lv_iload F.1 F.2.1 dX0_oldestFounder_49 (lv_at hl 4 rfl) ?_
              refine r_ald F I hr_b15 hk_b15 dX0_oldestFounder_51 h (fun z16 h => ?_)
              refine lv_iload_n F.1 F.2.1 dX0_oldestFounder_52 rfl (lv_at hl 1 rfl) ?_
              refine r_icmp_ne (tgt := 60) F dX0_oldestFounder_53 (by decide) h (fun h => ?_) (fun h => ?_)
              · exact hj_60 S _ _ _ x0 x2 x3 x4 x5 hr_x0 hk_x0 h I (lv_sub hl [0, 1, 2, 3, 4] rfl)
              · refine lv_iload F.1 F.2.1 dX0_oldestFounder_56 (lv_at hl 4 rfl) ?_
                refine lv_istore (lv' := [(4, .int x5), (0, .ref (gz g + x0)), (2, .int x2), (3, .int x3), (5, .int x5)]) F.1 F.2.1 dX0_oldestFounder_58 hl (by decide) rfl (fun ls hl => ?_)
                exact hj_60 S _ _ _ x0 x2 x3 x5 x5 hr_x0 hk_x0 h I (lv_sub hl [1, 2, 3, 0, 4] rfl)
  refine lv_iconst (v := 1) F.1 F.2.1 dX0_oldestFounder_0 (by decide) ?_
  refine lv_iload_n F.1 F.2.1 dX0_oldestFounder_1 rfl (lv_at hl 1 rfl) ?_
  refine r_ishl F dX0_oldestFounder_2 h (fun z17 h => ?_)
  refine lv_istore_n (lv' := [(3, .int z17), (0, .ref (gz g + a0)), (1, .int a1), (2, .int a2)]) F.1 F.2.1 dX0_oldestFounder_3 rfl hl (by decide) rfl (fun ls hl => ?_)
  refine lv_iconst (v := -1) F.1 F.2.1 dX0_oldestFounder_4 (by decide) ?_
  refine lv_istore (lv' := [(4, .int (-1 : Int32)), (3, .int z17), (0, .ref (gz g + a0)), (1, .int a1), (2, .int a2)]) F.1 F.2.1 dX0_oldestFounder_5 hl (by decide) rfl (fun ls hl => ?_)
  refine lv_iload_n F.1 F.2.1 dX0_oldestFounder_7 rfl (lv_at hl 3 rfl) ?_
  refine lv_istore (lv' := [(5, .int a1), (4, .int (-1 : Int32)), (3, .int z17), (0, .ref (gz g + a0)), (1, .int a1), (2, .int a2)]) F.1 F.2.1 dX0_oldestFounder_8 hl (by decide) rfl (fun ls hl => ?_)
  obtain ⟨n10, h⟩ := h
  exact hl_10 n10 S _ _ _ a0 a2 z17 (-1 : Int32) a1 hr_a0 hk_a0 h I (lv_sub hl [3, 5, 2, 1, 0] rfl)
theorem bdX0_lastLaw_0 : ∀ q ∈ ([(0, .aload_n 0, 1), (1, .getfield 49, 3), (4, .bipush 14, 2), (6, .invokestatic 87, 3), (9, .iconst 1, 1), (10, .isub, 1), (11, .istore_n 2, 1), (12, .iload_n 2, 1), (13, .ifCond .lt 33, 3), (16, .aload_n 0, 1), (17, .getfield 45, 3), (20, .iload_n 2, 1), (21, .aaload, 1), (25, .aload_n 0, 1), (26, .getfield 45, 3), (29, .iload_n 2, 1), (30, .aaload, 1), (31, .getfield 92, 3), (34, .iload_n 1, 1), (35, .if_icmp .ne 5, 3), (38, .iload_n 2, 1), (39, .ireturn, 1), (40, .iinc 2 (-1), 3), (43, .goto (-31), 3), (46, .iconst (-1), 1), (47, .ireturn, 1)] : List (Nat × Jvm.ClassFile.Instr × Nat)), decode cX0_lastLaw q.1 = .ok q.2 := chk_ok _ 0 _ rfl (by decide +kernel)
theorem dX0_lastLaw_0 : decode cX0_lastLaw 0 = .ok (.aload_n 0, 1) := bdX0_lastLaw_0 (0, .aload_n 0, 1) (List.mem_of_getElem? (i := 0) rfl)
theorem dX0_lastLaw_1 : decode cX0_lastLaw 1 = .ok (.getfield 49, 3) := bdX0_lastLaw_0 (1, .getfield 49, 3) (List.mem_of_getElem? (i := 1) rfl)
theorem dX0_lastLaw_4 : decode cX0_lastLaw 4 = .ok (.bipush 14, 2) := bdX0_lastLaw_0 (4, .bipush 14, 2) (List.mem_of_getElem? (i := 2) rfl)
theorem dX0_lastLaw_6 : decode cX0_lastLaw 6 = .ok (.invokestatic 87, 3) := bdX0_lastLaw_0 (6, .invokestatic 87, 3) (List.mem_of_getElem? (i := 3) rfl)
theorem dX0_lastLaw_9 : decode cX0_lastLaw 9 = .ok (.iconst 1, 1) := bdX0_lastLaw_0 (9, .iconst 1, 1) (List.mem_of_getElem? (i := 4) rfl)
theorem dX0_lastLaw_10 : decode cX0_lastLaw 10 = .ok (.isub, 1) := bdX0_lastLaw_0 (10, .isub, 1) (List.mem_of_getElem? (i := 5) rfl)
theorem dX0_lastLaw_11 : decode cX0_lastLaw 11 = .ok (.istore_n 2, 1) := bdX0_lastLaw_0 (11, .istore_n 2, 1) (List.mem_of_getElem? (i := 6) rfl)
theorem dX0_lastLaw_12 : decode cX0_lastLaw 12 = .ok (.iload_n 2, 1) := bdX0_lastLaw_0 (12, .iload_n 2, 1) (List.mem_of_getElem? (i := 7) rfl)
theorem dX0_lastLaw_13 : decode cX0_lastLaw 13 = .ok (.ifCond .lt 33, 3) := bdX0_lastLaw_0 (13, .ifCond .lt 33, 3) (List.mem_of_getElem? (i := 8) rfl)
theorem dX0_lastLaw_16 : decode cX0_lastLaw 16 = .ok (.aload_n 0, 1) := bdX0_lastLaw_0 (16, .aload_n 0, 1) (List.mem_of_getElem? (i := 9) rfl)
theorem dX0_lastLaw_17 : decode cX0_lastLaw 17 = .ok (.getfield 45, 3) := bdX0_lastLaw_0 (17, .getfield 45, 3) (List.mem_of_getElem? (i := 10) rfl)
theorem dX0_lastLaw_20 : decode cX0_lastLaw 20 = .ok (.iload_n 2, 1) := bdX0_lastLaw_0 (20, .iload_n 2, 1) (List.mem_of_getElem? (i := 11) rfl)
theorem dX0_lastLaw_21 : decode cX0_lastLaw 21 = .ok (.aaload, 1) := bdX0_lastLaw_0 (21, .aaload, 1) (List.mem_of_getElem? (i := 12) rfl)
theorem dX0_lastLaw_25 : decode cX0_lastLaw 25 = .ok (.aload_n 0, 1) := bdX0_lastLaw_0 (25, .aload_n 0, 1) (List.mem_of_getElem? (i := 13) rfl)
theorem dX0_lastLaw_26 : decode cX0_lastLaw 26 = .ok (.getfield 45, 3) := bdX0_lastLaw_0 (26, .getfield 45, 3) (List.mem_of_getElem? (i := 14) rfl)
theorem dX0_lastLaw_29 : decode cX0_lastLaw 29 = .ok (.iload_n 2, 1) := bdX0_lastLaw_0 (29, .iload_n 2, 1) (List.mem_of_getElem? (i := 15) rfl)
theorem dX0_lastLaw_30 : decode cX0_lastLaw 30 = .ok (.aaload, 1) := bdX0_lastLaw_0 (30, .aaload, 1) (List.mem_of_getElem? (i := 16) rfl)
theorem dX0_lastLaw_31 : decode cX0_lastLaw 31 = .ok (.getfield 92, 3) := bdX0_lastLaw_0 (31, .getfield 92, 3) (List.mem_of_getElem? (i := 17) rfl)
theorem dX0_lastLaw_34 : decode cX0_lastLaw 34 = .ok (.iload_n 1, 1) := bdX0_lastLaw_0 (34, .iload_n 1, 1) (List.mem_of_getElem? (i := 18) rfl)
theorem dX0_lastLaw_35 : decode cX0_lastLaw 35 = .ok (.if_icmp .ne 5, 3) := bdX0_lastLaw_0 (35, .if_icmp .ne 5, 3) (List.mem_of_getElem? (i := 19) rfl)
theorem dX0_lastLaw_38 : decode cX0_lastLaw 38 = .ok (.iload_n 2, 1) := bdX0_lastLaw_0 (38, .iload_n 2, 1) (List.mem_of_getElem? (i := 20) rfl)
theorem dX0_lastLaw_39 : decode cX0_lastLaw 39 = .ok (.ireturn, 1) := bdX0_lastLaw_0 (39, .ireturn, 1) (List.mem_of_getElem? (i := 21) rfl)
theorem dX0_lastLaw_40 : decode cX0_lastLaw 40 = .ok (.iinc 2 (-1), 3) := bdX0_lastLaw_0 (40, .iinc 2 (-1), 3) (List.mem_of_getElem? (i := 22) rfl)
theorem dX0_lastLaw_43 : decode cX0_lastLaw 43 = .ok (.goto (-31), 3) := bdX0_lastLaw_0 (43, .goto (-31), 3) (List.mem_of_getElem? (i := 23) rfl)
theorem dX0_lastLaw_46 : decode cX0_lastLaw 46 = .ok (.iconst (-1), 1) := bdX0_lastLaw_0 (46, .iconst (-1), 1) (List.mem_of_getElem? (i := 24) rfl)
theorem dX0_lastLaw_47 : decode cX0_lastLaw 47 = .ok (.ireturn, 1) := bdX0_lastLaw_0 (47, .ireturn, 1) (List.mem_of_getElem? (i := 25) rfl)
theorem dX0_lastLaw_22 : decode cX0_lastLaw 22 = .ok (.ifnull 18, 3) := by decide +kernel
theorem fX0_45 : fldOK RX0 45 0 10 (.array (.object "LionShield$Law")) true := ⟨_, _, _, tyX0, ⟨rfl, iX0, by decide, rfl, by decide⟩, tw_119, ⟨tyX0_ok, nmX0⟩, by decide +kernel, rfl, rfl⟩
theorem fX0_92 : fldOK RX0 92 1 0 .int true := ⟨_, _, _, tyX1, ⟨rfl, iX1, by decide, rfl, by decide⟩, tw_819, ⟨tyX1_ok, nmX1⟩, by decide +kernel, rfl, rfl⟩
theorem fX0_49 : fldOK RX0 49 0 11 .int false := ⟨_, _, _, tyX0, ⟨rfl, iX0, by decide, rfl, by decide⟩, tw_121, ⟨tyX0_ok, nmX0⟩, by decide +kernel, rfl, rfl⟩
def BX0_lastLaw_40 (ln : Nat → Nat) (post : Int32 → HC → Prop) (K12 : HC → Nat → Int32 → Int32 → Prop) (S : HC) (x0 : Nat) (x1 : Int32) (x2 : Int32) : Prop := lt_ (x2 + (-1 : Int32)) fun z1 => K12 S x0 x1 z1
def LX0_lastLaw_12 (ln : Nat → Nat) (post : Int32 → HC → Prop) : Nat → HC → Nat → Int32 → Int32 → Prop
  | 0 => fun _ _ _ _ => False
  | n12 + 1 => fun S x0 x1 x2 => if x2 < 0 then (post (-1 : Int32) S) else (dn_ (hR S x0 10) fun b2 => al_ (ln b2) x2 (hR S b2) fun o3 => cO_ o3 (BX0_lastLaw_40 ln post (LX0_lastLaw_12 ln post n12) S x0 x1 x2) fun b4 => dn_ (hR S x0 10) fun b5 => al_ (ln b5) x2 (hR S b5) fun o6 => dn_ o6 fun b7 => lt_ (hI S b7 0) fun z8 => if z8 = x1 then (post x2 S) else (BX0_lastLaw_40 ln post (LX0_lastLaw_12 ln post n12) S x0 x1 x2))
def wpX0_lastLaw (ln : Nat → Nat) (S : HC) (a0 : Nat) (a1 : Int32) (post : Int32 → HC → Prop) : Prop := lt_ (hI S a0 11) fun z9 => lt_ (if (14 : Int32) < z9 then (14 : Int32) else z9) fun z10 => lt_ (z10 - (1 : Int32)) fun z11 => ∃ n12, LX0_lastLaw_12 ln post n12 S a0 a1 z11
abbrev rmX0_lastLaw : Room := { frames := 1, cells := 0, slots := 0, locals := 21 }
set_option maxHeartbeats 4000000 in
set_option maxRecDepth 100000 in
theorem ctX0_lastLaw {l : Launch} {g : GX} {N : Nat} {ln : Nat → Nat} {S : HC} {a0 : Nat} {a1 : Int32} {post : Int32 → HC → Prop} (hr_a0 : a0 < N) (hk_a0 : kd a0 = 0) (h : wpX0_lastLaw ln S a0 a1 post) : Met l yX0_lastLaw (Cond.code yX0_lastLaw prog_2_method_18_code 3 (Option.some Jvm.ClassFile.FieldType.int) :: gtbl) rmX0_lastLaw (va_Pc [.ref (gz g + a0), .int a1] (AtP g N ln S)) (QI g N ln post) 0 0 (gF g) := by
  refine m_of (by decide) (Nat.le_of_ble_eq_true rfl) ?_
  intro p e s m below meth c ls F hr I hl
  have hl : lv_has ls 3 [(0, .ref (gz g + a0)), (1, .int a1)] := hl
  unfold wpX0_lastLaw at h
  have hl_12 : ∀ n12 : Nat, ∀ (S : HC) (H : Heap) (locs : List Loc) (ls : Array Slot) (x0 : Nat) (x1 : Int32) (x2 : Int32), x0 < N → kd x0 = 0 → LX0_lastLaw_12 ln post n12 S x0 x1 x2 → Inv g N ln S s H locs → lv_has ls 3 [(0, .ref (gz g + x0)), (1, .int x1), (2, .int x2)] → W p l e rmX0_lastLaw s m ([.ref (gz g + a0), .int a1] : List Value).toArray below meth c H locs 0 0 (MQ below (QI g N ln post) ([.ref (gz g + a0), .int a1] : List Value).toArray s 0 0 (gF g)) (F0 m 12 ls []) := by
    intro n12
    induction n12 with
    | zero =>
      intro S H locs ls x0 x1 x2 hr_x0 hk_x0 h I hl
      exact h.elim
    | succ n12 ih =>
      have hk12 := ih
      have hj_40 : ∀ (S : HC) (H : Heap) (locs : List Loc) (ls : Array Slot) (x0 : Nat) (x1 : Int32) (x2 : Int32), x0 < N → kd x0 = 0 → BX0_lastLaw_40 ln post (LX0_lastLaw_12 ln post n12) S x0 x1 x2 → Inv g N ln S s H locs → lv_has ls 3 [(0, .ref (gz g + x0)), (1, .int x1), (2, .int x2)] → W p l e rmX0_lastLaw s m ([.ref (gz g + a0), .int a1] : List Value).toArray below meth c H locs 0 0 (MQ below (QI g N ln post) ([.ref (gz g + a0), .int a1] : List Value).toArray s 0 0 (gF g)) (F0 m 40 ls []) := by
        intro S H locs ls x0 x1 x2 hr_x0 hk_x0 h I hl
        unfold BX0_lastLaw_40 at h
        obtain ⟨z1, e_z1, h⟩ := lt_x h
        refine lv_iinc (v := z1) (lv' := [(2, .int z1), (0, .ref (gz g + x0)), (1, .int x1)]) F.1 F.2.1 dX0_lastLaw_40 hl (k := 2) rfl (by rw [e_z1]; rfl) (by decide) rfl (fun ls hl => ?_)
        refine lv_goto (tgt := 12) F.1 F.2.1 dX0_lastLaw_43 (by decide) ?_
        exact hk12 S _ _ _ x0 x1 z1 hr_x0 hk_x0 h I (lv_sub hl [1, 2, 0] rfl)
      intro S H locs ls x0 x1 x2 hr_x0 hk_x0 h I hl
      rw [LX0_lastLaw_12] at h
      refine lv_iload_n F.1 F.2.1 dX0_lastLaw_12 rfl (lv_at hl 2 rfl) ?_
      refine r_if_lt (tgt := 46) F dX0_lastLaw_13 (by decide) h (fun h => ?_) (fun h => ?_)
      · refine lv_iconst (v := -1) F.1 F.2.1 dX0_lastLaw_46 (by decide) ?_
        exact r_ireturn F I ⟨hr.1, hr.2.1, trivial⟩ h dX0_lastLaw_47
      · refine lv_aload_n F.1 F.2.1 dX0_lastLaw_16 rfl (lv_at hl 0 rfl) ?_
        refine r_getN F I hr_x0 hk_x0 fX0_45 (f := 13) rfl (by decide) dX0_lastLaw_17 h (fun b2 hr_b2 hk_b2 h => ?_)
        refine lv_iload_n F.1 F.2.1 dX0_lastLaw_20 rfl (lv_at hl 2 rfl) ?_
        refine r_aldO F I hr_b2 hk_b2 (by decide) (f := 1) rfl dX0_lastLaw_21 h (fun o3 ho_o3 h => ?_)
        refine r_ifnull (tgt := 40) (g := g) F dX0_lastLaw_22 (by decide) h (fun q h => ?_) (fun b4 q h2 => ?_)
        · exact hj_40 S _ _ _ x0 x1 x2 hr_x0 hk_x0 h I (lv_sub hl [0, 1, 2] rfl)
        · obtain ⟨hr_b4, hk_b4⟩ := ho_o3 b4 q
          subst q
          clear h
          have h := h2
          clear h2
          refine lv_aload_n F.1 F.2.1 dX0_lastLaw_25 rfl (lv_at hl 0 rfl) ?_
          refine r_getN F I hr_x0 hk_x0 fX0_45 (f := 13) rfl (by decide) dX0_lastLaw_26 h (fun b5 hr_b5 hk_b5 h => ?_)
          refine lv_iload_n F.1 F.2.1 dX0_lastLaw_29 rfl (lv_at hl 2 rfl) ?_
          refine r_aldO F I hr_b5 hk_b5 (by decide) (f := 1) rfl dX0_lastLaw_30 h (fun o6 ho_o6 h => ?_)
          obtain ⟨b7, q, h⟩ := h
          obtain ⟨hr_b7, hk_b7⟩ := ho_o6 b7 q
          revert h
          revert hl
          subst q
          intro hl
          intro h
          refine r_getI F I hr_b7 hk_b7 fX0_92 rfl dX0_lastLaw_31 h (fun z8 h => ?_)
          refine lv_iload_n F.1 F.2.1 dX0_lastLaw_34 rfl (lv_at hl 1 rfl) ?_
          refine r_icmp_ne (tgt := 40) F dX0_lastLaw_35 (by decide) h (fun h => ?_) (fun h => ?_)
          · exact hj_40 S _ _ _ x0 x1 x2 hr_x0 hk_x0 h I (lv_sub hl [0, 1, 2] rfl)
          · refine lv_iload_n F.1 F.2.1 dX0_lastLaw_38 rfl (lv_at hl 2 rfl) ?_
            exact r_ireturn F I ⟨hr.1, hr.2.1, trivial⟩ h dX0_lastLaw_39
  refine lv_aload_n F.1 F.2.1 dX0_lastLaw_0 rfl (lv_at hl 0 rfl) ?_
  refine r_getI F I hr_a0 hk_a0 fX0_49 rfl dX0_lastLaw_1 h (fun z9 h => ?_)
  refine lv_bipush (v := 14) F.1 F.2.1 dX0_lastLaw_4 (by decide) ?_
  refine r_mmin F hl.1 tw_377 (Nat.le_of_ble_eq_true rfl) (Nat.le_of_ble_eq_true rfl) (Nat.zero_le _) (Nat.zero_le _) dX0_lastLaw_6 h (fun z10 h => ?_)
  refine lv_iconst (v := 1) F.1 F.2.1 dX0_lastLaw_9 (by decide) ?_
  refine r_isub F dX0_lastLaw_10 h (fun z11 h => ?_)
  refine lv_istore_n (lv' := [(2, .int z11), (0, .ref (gz g + a0)), (1, .int a1)]) F.1 F.2.1 dX0_lastLaw_11 rfl hl (by decide) rfl (fun ls hl => ?_)
  obtain ⟨n12, h⟩ := h
  exact hl_12 n12 S _ _ _ a0 a1 z11 hr_a0 hk_a0 h I (lv_sub hl [1, 2, 0] rfl)
theorem bdX0_lawFor_0 : ∀ q ∈ ([(0, .aload_n 0, 1), (1, .iload_n 1, 1), (2, .invokevirtual 95, 3), (5, .istore_n 2, 1), (6, .iload_n 2, 1), (7, .ifCond .ge 7, 3), (11, .goto 9, 3), (14, .aload_n 0, 1), (15, .getfield 45, 3), (18, .iload_n 2, 1), (19, .aaload, 1)] : List (Nat × Jvm.ClassFile.Instr × Nat)), decode cX0_lawFor q.1 = .ok q.2 := chk_ok _ 0 _ rfl (by decide +kernel)
theorem dX0_lawFor_0 : decode cX0_lawFor 0 = .ok (.aload_n 0, 1) := bdX0_lawFor_0 (0, .aload_n 0, 1) (List.mem_of_getElem? (i := 0) rfl)
theorem dX0_lawFor_1 : decode cX0_lawFor 1 = .ok (.iload_n 1, 1) := bdX0_lawFor_0 (1, .iload_n 1, 1) (List.mem_of_getElem? (i := 1) rfl)
theorem dX0_lawFor_2 : decode cX0_lawFor 2 = .ok (.invokevirtual 95, 3) := bdX0_lawFor_0 (2, .invokevirtual 95, 3) (List.mem_of_getElem? (i := 2) rfl)
theorem dX0_lawFor_5 : decode cX0_lawFor 5 = .ok (.istore_n 2, 1) := bdX0_lawFor_0 (5, .istore_n 2, 1) (List.mem_of_getElem? (i := 3) rfl)
theorem dX0_lawFor_6 : decode cX0_lawFor 6 = .ok (.iload_n 2, 1) := bdX0_lawFor_0 (6, .iload_n 2, 1) (List.mem_of_getElem? (i := 4) rfl)
theorem dX0_lawFor_7 : decode cX0_lawFor 7 = .ok (.ifCond .ge 7, 3) := bdX0_lawFor_0 (7, .ifCond .ge 7, 3) (List.mem_of_getElem? (i := 5) rfl)
theorem dX0_lawFor_11 : decode cX0_lawFor 11 = .ok (.goto 9, 3) := bdX0_lawFor_0 (11, .goto 9, 3) (List.mem_of_getElem? (i := 6) rfl)
theorem dX0_lawFor_14 : decode cX0_lawFor 14 = .ok (.aload_n 0, 1) := bdX0_lawFor_0 (14, .aload_n 0, 1) (List.mem_of_getElem? (i := 7) rfl)
theorem dX0_lawFor_15 : decode cX0_lawFor 15 = .ok (.getfield 45, 3) := bdX0_lawFor_0 (15, .getfield 45, 3) (List.mem_of_getElem? (i := 8) rfl)
theorem dX0_lawFor_18 : decode cX0_lawFor 18 = .ok (.iload_n 2, 1) := bdX0_lawFor_0 (18, .iload_n 2, 1) (List.mem_of_getElem? (i := 9) rfl)
theorem dX0_lawFor_19 : decode cX0_lawFor 19 = .ok (.aaload, 1) := bdX0_lawFor_0 (19, .aaload, 1) (List.mem_of_getElem? (i := 10) rfl)
theorem dX0_lawFor_10 : decode cX0_lawFor 10 = .ok (.aconst_null, 1) := by decide +kernel
theorem dX0_lawFor_20 : decode cX0_lawFor 20 = .ok (.areturn, 1) := by decide +kernel
theorem kX0_95 : mthV RX0 95 0 yX0_lastLaw prog_2_method_18_code 3 (Option.some Jvm.ClassFile.FieldType.int) 1 := ⟨⟨⟨tw_373, tw_61, tw_376⟩, rfl, by decide +kernel⟩, tw_374, tw_375, rfl⟩
def wpX0_lawFor (ln : Nat → Nat) (S : HC) (a0 : Nat) (a1 : Int32) (post : Option Nat → HC → Prop) : Prop := wpX0_lastLaw ln S a0 a1 fun z1 S => if 0 ≤ z1 then (dn_ (hR S a0 10) fun b2 => al_ (ln b2) z1 (hR S b2) fun o3 => post o3 S) else (post none S)
abbrev rmX0_lawFor : Room := { frames := 2, cells := 0, slots := 0, locals := 43 }
set_option maxHeartbeats 4000000 in
set_option maxRecDepth 100000 in
theorem ctX0_lawFor {l : Launch} {g : GX} {N : Nat} {ln : Nat → Nat} {S : HC} {a0 : Nat} {a1 : Int32} {post : Option Nat → HC → Prop} (hr_a0 : a0 < N) (hk_a0 : kd a0 = 0) (h : wpX0_lawFor ln S a0 a1 post) : Met l yX0_lawFor (Cond.code yX0_lawFor prog_2_method_19_code 3 (Option.some (Jvm.ClassFile.FieldType.object "LionShield$Law")) :: gtbl) rmX0_lawFor (va_Pc [.ref (gz g + a0), .int a1] (AtP g N ln S)) (QO g N ln 1 post) 0 0 (gF g) := by
  refine m_of (by decide) (Nat.le_of_ble_eq_true rfl) ?_
  intro p e s m below meth c ls F hr I hl
  have hl : lv_has ls 3 [(0, .ref (gz g + a0)), (1, .int a1)] := hl
  unfold wpX0_lawFor at h
  refine lv_aload_n F.1 F.2.1 dX0_lawFor_0 rfl (lv_at hl 0 rfl) ?_
  refine lv_iload_n F.1 F.2.1 dX0_lawFor_1 rfl (lv_at hl 1 rfl) ?_
  refine g_I I (run_V (As := [.int a1]) (rest := []) F I hr_a0 hk_a0 (by decide) kX0_95 (ctX0_lastLaw hr_a0 hk_a0 h) ⟨rfl, rfl⟩ ⟨Nat.le_of_ble_eq_true rfl, Nat.le_of_ble_eq_true rfl⟩ rfl hl.1 rfl (Nat.le_of_ble_eq_true rfl) ⟨Nat.le_of_ble_eq_true rfl, Nat.le_of_ble_eq_true rfl⟩ dX0_lawFor_2) (fun z1 S H locs I h => ?_)
  refine lv_istore_n (lv' := [(2, .int z1), (0, .ref (gz g + a0)), (1, .int a1)]) F.1 F.2.1 dX0_lawFor_5 rfl hl (by decide) rfl (fun ls hl => ?_)
  refine lv_iload_n F.1 F.2.1 dX0_lawFor_6 rfl (lv_at hl 0 rfl) ?_
  refine r_if_ge (tgt := 14) F dX0_lawFor_7 (by decide) h (fun h => ?_) (fun h => ?_)
  · refine lv_aload_n F.1 F.2.1 dX0_lawFor_14 rfl (lv_at hl 1 rfl) ?_
    refine r_getN F I hr_a0 hk_a0 fX0_45 (f := 13) rfl (by decide) dX0_lawFor_15 h (fun b2 hr_b2 hk_b2 h => ?_)
    refine lv_iload_n F.1 F.2.1 dX0_lawFor_18 rfl (lv_at hl 0 rfl) ?_
    refine r_aldO F I hr_b2 hk_b2 (by decide) (f := 1) rfl dX0_lawFor_19 h (fun o3 ho_o3 h => ?_)
    exact r_areturnO F I ⟨hr.1, hr.2.1, trivial⟩ ho_o3 h dX0_lawFor_20
  · refine lv_null F.1 F.2.1 dX0_lawFor_10 ?_
    refine lv_goto (tgt := 20) F.1 F.2.1 dX0_lawFor_11 (by decide) ?_
    exact r_areturnO (o := none) (f := 1) F I ⟨hr.1, hr.2.1, trivial⟩ (fun b q => by cases q) h dX0_lawFor_20
theorem bdX0_become_0 : ∀ q ∈ ([(0, .iconst 0, 1), (1, .istore_n 2, 1), (2, .iload_n 2, 1), (3, .bipush 14, 2), (5, .if_icmp .ge 81, 3), (8, .aload_n 0, 1), (9, .getfield 9, 3), (12, .iload_n 2, 1), (13, .aload_n 1, 1), (14, .getfield 9, 3), (17, .iload_n 2, 1), (18, .iaload, 1), (19, .iastore, 1), (20, .aload_n 0, 1), (21, .getfield 15, 3), (24, .iload_n 2, 1), (25, .aload_n 1, 1), (26, .getfield 15, 3), (29, .iload_n 2, 1), (30, .iaload, 1), (31, .iastore, 1), (32, .aload_n 0, 1), (33, .getfield 18, 3), (36, .iload_n 2, 1), (37, .aload_n 1, 1), (38, .getfield 18, 3), (41, .iload_n 2, 1), (42, .iaload, 1), (43, .iastore, 1), (44, .aload_n 0, 1), (45, .getfield 21, 3), (48, .iload_n 2, 1), (49, .aload_n 1, 1), (50, .getfield 21, 3), (53, .iload_n 2, 1), (54, .iaload, 1), (55, .iastore, 1), (56, .aload_n 0, 1), (57, .getfield 24, 3), (60, .iload_n 2, 1)] : List (Nat × Jvm.ClassFile.Instr × Nat)), decode cX0_become q.1 = .ok q.2 := chk_ok _ 0 _ rfl (by decide +kernel)
theorem dX0_become_0 : decode cX0_become 0 = .ok (.iconst 0, 1) := bdX0_become_0 (0, .iconst 0, 1) (List.mem_of_getElem? (i := 0) rfl)
theorem dX0_become_1 : decode cX0_become 1 = .ok (.istore_n 2, 1) := bdX0_become_0 (1, .istore_n 2, 1) (List.mem_of_getElem? (i := 1) rfl)
theorem dX0_become_2 : decode cX0_become 2 = .ok (.iload_n 2, 1) := bdX0_become_0 (2, .iload_n 2, 1) (List.mem_of_getElem? (i := 2) rfl)
theorem dX0_become_3 : decode cX0_become 3 = .ok (.bipush 14, 2) := bdX0_become_0 (3, .bipush 14, 2) (List.mem_of_getElem? (i := 3) rfl)
theorem dX0_become_5 : decode cX0_become 5 = .ok (.if_icmp .ge 81, 3) := bdX0_become_0 (5, .if_icmp .ge 81, 3) (List.mem_of_getElem? (i := 4) rfl)
theorem dX0_become_8 : decode cX0_become 8 = .ok (.aload_n 0, 1) := bdX0_become_0 (8, .aload_n 0, 1) (List.mem_of_getElem? (i := 5) rfl)
theorem dX0_become_9 : decode cX0_become 9 = .ok (.getfield 9, 3) := bdX0_become_0 (9, .getfield 9, 3) (List.mem_of_getElem? (i := 6) rfl)
theorem dX0_become_12 : decode cX0_become 12 = .ok (.iload_n 2, 1) := bdX0_become_0 (12, .iload_n 2, 1) (List.mem_of_getElem? (i := 7) rfl)
theorem dX0_become_13 : decode cX0_become 13 = .ok (.aload_n 1, 1) := bdX0_become_0 (13, .aload_n 1, 1) (List.mem_of_getElem? (i := 8) rfl)
theorem dX0_become_14 : decode cX0_become 14 = .ok (.getfield 9, 3) := bdX0_become_0 (14, .getfield 9, 3) (List.mem_of_getElem? (i := 9) rfl)
theorem dX0_become_17 : decode cX0_become 17 = .ok (.iload_n 2, 1) := bdX0_become_0 (17, .iload_n 2, 1) (List.mem_of_getElem? (i := 10) rfl)
theorem dX0_become_18 : decode cX0_become 18 = .ok (.iaload, 1) := bdX0_become_0 (18, .iaload, 1) (List.mem_of_getElem? (i := 11) rfl)
theorem dX0_become_19 : decode cX0_become 19 = .ok (.iastore, 1) := bdX0_become_0 (19, .iastore, 1) (List.mem_of_getElem? (i := 12) rfl)
theorem dX0_become_20 : decode cX0_become 20 = .ok (.aload_n 0, 1) := bdX0_become_0 (20, .aload_n 0, 1) (List.mem_of_getElem? (i := 13) rfl)
theorem dX0_become_21 : decode cX0_become 21 = .ok (.getfield 15, 3) := bdX0_become_0 (21, .getfield 15, 3) (List.mem_of_getElem? (i := 14) rfl)
theorem dX0_become_24 : decode cX0_become 24 = .ok (.iload_n 2, 1) := bdX0_become_0 (24, .iload_n 2, 1) (List.mem_of_getElem? (i := 15) rfl)
theorem dX0_become_25 : decode cX0_become 25 = .ok (.aload_n 1, 1) := bdX0_become_0 (25, .aload_n 1, 1) (List.mem_of_getElem? (i := 16) rfl)
theorem dX0_become_26 : decode cX0_become 26 = .ok (.getfield 15, 3) := bdX0_become_0 (26, .getfield 15, 3) (List.mem_of_getElem? (i := 17) rfl)
theorem dX0_become_29 : decode cX0_become 29 = .ok (.iload_n 2, 1) := bdX0_become_0 (29, .iload_n 2, 1) (List.mem_of_getElem? (i := 18) rfl)
theorem dX0_become_30 : decode cX0_become 30 = .ok (.iaload, 1) := bdX0_become_0 (30, .iaload, 1) (List.mem_of_getElem? (i := 19) rfl)
theorem dX0_become_31 : decode cX0_become 31 = .ok (.iastore, 1) := bdX0_become_0 (31, .iastore, 1) (List.mem_of_getElem? (i := 20) rfl)
theorem dX0_become_32 : decode cX0_become 32 = .ok (.aload_n 0, 1) := bdX0_become_0 (32, .aload_n 0, 1) (List.mem_of_getElem? (i := 21) rfl)
theorem dX0_become_33 : decode cX0_become 33 = .ok (.getfield 18, 3) := bdX0_become_0 (33, .getfield 18, 3) (List.mem_of_getElem? (i := 22) rfl)
theorem dX0_become_36 : decode cX0_become 36 = .ok (.iload_n 2, 1) := bdX0_become_0 (36, .iload_n 2, 1) (List.mem_of_getElem? (i := 23) rfl)
theorem dX0_become_37 : decode cX0_become 37 = .ok (.aload_n 1, 1) := bdX0_become_0 (37, .aload_n 1, 1) (List.mem_of_getElem? (i := 24) rfl)
theorem dX0_become_38 : decode cX0_become 38 = .ok (.getfield 18, 3) := bdX0_become_0 (38, .getfield 18, 3) (List.mem_of_getElem? (i := 25) rfl)
theorem dX0_become_41 : decode cX0_become 41 = .ok (.iload_n 2, 1) := bdX0_become_0 (41, .iload_n 2, 1) (List.mem_of_getElem? (i := 26) rfl)
theorem dX0_become_42 : decode cX0_become 42 = .ok (.iaload, 1) := bdX0_become_0 (42, .iaload, 1) (List.mem_of_getElem? (i := 27) rfl)
theorem dX0_become_43 : decode cX0_become 43 = .ok (.iastore, 1) := bdX0_become_0 (43, .iastore, 1) (List.mem_of_getElem? (i := 28) rfl)
theorem dX0_become_44 : decode cX0_become 44 = .ok (.aload_n 0, 1) := bdX0_become_0 (44, .aload_n 0, 1) (List.mem_of_getElem? (i := 29) rfl)
theorem dX0_become_45 : decode cX0_become 45 = .ok (.getfield 21, 3) := bdX0_become_0 (45, .getfield 21, 3) (List.mem_of_getElem? (i := 30) rfl)
theorem dX0_become_48 : decode cX0_become 48 = .ok (.iload_n 2, 1) := bdX0_become_0 (48, .iload_n 2, 1) (List.mem_of_getElem? (i := 31) rfl)
theorem dX0_become_49 : decode cX0_become 49 = .ok (.aload_n 1, 1) := bdX0_become_0 (49, .aload_n 1, 1) (List.mem_of_getElem? (i := 32) rfl)
theorem dX0_become_50 : decode cX0_become 50 = .ok (.getfield 21, 3) := bdX0_become_0 (50, .getfield 21, 3) (List.mem_of_getElem? (i := 33) rfl)
theorem dX0_become_53 : decode cX0_become 53 = .ok (.iload_n 2, 1) := bdX0_become_0 (53, .iload_n 2, 1) (List.mem_of_getElem? (i := 34) rfl)
theorem dX0_become_54 : decode cX0_become 54 = .ok (.iaload, 1) := bdX0_become_0 (54, .iaload, 1) (List.mem_of_getElem? (i := 35) rfl)
theorem dX0_become_55 : decode cX0_become 55 = .ok (.iastore, 1) := bdX0_become_0 (55, .iastore, 1) (List.mem_of_getElem? (i := 36) rfl)
theorem dX0_become_56 : decode cX0_become 56 = .ok (.aload_n 0, 1) := bdX0_become_0 (56, .aload_n 0, 1) (List.mem_of_getElem? (i := 37) rfl)
theorem dX0_become_57 : decode cX0_become 57 = .ok (.getfield 24, 3) := bdX0_become_0 (57, .getfield 24, 3) (List.mem_of_getElem? (i := 38) rfl)
theorem dX0_become_60 : decode cX0_become 60 = .ok (.iload_n 2, 1) := bdX0_become_0 (60, .iload_n 2, 1) (List.mem_of_getElem? (i := 39) rfl)
theorem bdX0_become_61 : ∀ q ∈ ([(61, .aload_n 1, 1), (62, .getfield 24, 3), (65, .iload_n 2, 1), (66, .iaload, 1), (67, .iastore, 1), (68, .aload_n 0, 1), (69, .getfield 27, 3), (72, .iload_n 2, 1), (73, .aload_n 1, 1), (74, .getfield 27, 3), (77, .iload_n 2, 1), (78, .iaload, 1), (79, .iastore, 1), (80, .iinc 2 1, 3), (83, .goto (-81), 3), (86, .aload_n 0, 1), (87, .aload_n 1, 1), (88, .getfield 30, 3), (91, .putfield 30, 3), (94, .aload_n 0, 1), (95, .aload_n 1, 1), (96, .getfield 34, 3), (99, .putfield 34, 3), (102, .aload_n 0, 1), (103, .aload_n 1, 1), (104, .getfield 37, 3), (107, .putfield 37, 3), (110, .aload_n 0, 1), (111, .aload_n 1, 1), (112, .getfield 40, 3), (115, .putfield 40, 3), (118, .iconst 0, 1), (119, .istore_n 2, 1), (120, .iload_n 2, 1), (121, .bipush 14, 2), (123, .if_icmp .ge 21, 3), (126, .aload_n 0, 1), (127, .getfield 45, 3), (130, .iload_n 2, 1), (131, .aload_n 1, 1)] : List (Nat × Jvm.ClassFile.Instr × Nat)), decode cX0_become q.1 = .ok q.2 := chk_ok _ 61 _ rfl (by decide +kernel)
theorem dX0_become_61 : decode cX0_become 61 = .ok (.aload_n 1, 1) := bdX0_become_61 (61, .aload_n 1, 1) (List.mem_of_getElem? (i := 0) rfl)
theorem dX0_become_62 : decode cX0_become 62 = .ok (.getfield 24, 3) := bdX0_become_61 (62, .getfield 24, 3) (List.mem_of_getElem? (i := 1) rfl)
theorem dX0_become_65 : decode cX0_become 65 = .ok (.iload_n 2, 1) := bdX0_become_61 (65, .iload_n 2, 1) (List.mem_of_getElem? (i := 2) rfl)
theorem dX0_become_66 : decode cX0_become 66 = .ok (.iaload, 1) := bdX0_become_61 (66, .iaload, 1) (List.mem_of_getElem? (i := 3) rfl)
theorem dX0_become_67 : decode cX0_become 67 = .ok (.iastore, 1) := bdX0_become_61 (67, .iastore, 1) (List.mem_of_getElem? (i := 4) rfl)
theorem dX0_become_68 : decode cX0_become 68 = .ok (.aload_n 0, 1) := bdX0_become_61 (68, .aload_n 0, 1) (List.mem_of_getElem? (i := 5) rfl)
theorem dX0_become_69 : decode cX0_become 69 = .ok (.getfield 27, 3) := bdX0_become_61 (69, .getfield 27, 3) (List.mem_of_getElem? (i := 6) rfl)
theorem dX0_become_72 : decode cX0_become 72 = .ok (.iload_n 2, 1) := bdX0_become_61 (72, .iload_n 2, 1) (List.mem_of_getElem? (i := 7) rfl)
theorem dX0_become_73 : decode cX0_become 73 = .ok (.aload_n 1, 1) := bdX0_become_61 (73, .aload_n 1, 1) (List.mem_of_getElem? (i := 8) rfl)
theorem dX0_become_74 : decode cX0_become 74 = .ok (.getfield 27, 3) := bdX0_become_61 (74, .getfield 27, 3) (List.mem_of_getElem? (i := 9) rfl)
theorem dX0_become_77 : decode cX0_become 77 = .ok (.iload_n 2, 1) := bdX0_become_61 (77, .iload_n 2, 1) (List.mem_of_getElem? (i := 10) rfl)
theorem dX0_become_78 : decode cX0_become 78 = .ok (.iaload, 1) := bdX0_become_61 (78, .iaload, 1) (List.mem_of_getElem? (i := 11) rfl)
theorem dX0_become_79 : decode cX0_become 79 = .ok (.iastore, 1) := bdX0_become_61 (79, .iastore, 1) (List.mem_of_getElem? (i := 12) rfl)
theorem dX0_become_80 : decode cX0_become 80 = .ok (.iinc 2 1, 3) := bdX0_become_61 (80, .iinc 2 1, 3) (List.mem_of_getElem? (i := 13) rfl)
theorem dX0_become_83 : decode cX0_become 83 = .ok (.goto (-81), 3) := bdX0_become_61 (83, .goto (-81), 3) (List.mem_of_getElem? (i := 14) rfl)
theorem dX0_become_86 : decode cX0_become 86 = .ok (.aload_n 0, 1) := bdX0_become_61 (86, .aload_n 0, 1) (List.mem_of_getElem? (i := 15) rfl)
theorem dX0_become_87 : decode cX0_become 87 = .ok (.aload_n 1, 1) := bdX0_become_61 (87, .aload_n 1, 1) (List.mem_of_getElem? (i := 16) rfl)
theorem dX0_become_88 : decode cX0_become 88 = .ok (.getfield 30, 3) := bdX0_become_61 (88, .getfield 30, 3) (List.mem_of_getElem? (i := 17) rfl)
theorem dX0_become_91 : decode cX0_become 91 = .ok (.putfield 30, 3) := bdX0_become_61 (91, .putfield 30, 3) (List.mem_of_getElem? (i := 18) rfl)
theorem dX0_become_94 : decode cX0_become 94 = .ok (.aload_n 0, 1) := bdX0_become_61 (94, .aload_n 0, 1) (List.mem_of_getElem? (i := 19) rfl)
theorem dX0_become_95 : decode cX0_become 95 = .ok (.aload_n 1, 1) := bdX0_become_61 (95, .aload_n 1, 1) (List.mem_of_getElem? (i := 20) rfl)
theorem dX0_become_96 : decode cX0_become 96 = .ok (.getfield 34, 3) := bdX0_become_61 (96, .getfield 34, 3) (List.mem_of_getElem? (i := 21) rfl)
theorem dX0_become_99 : decode cX0_become 99 = .ok (.putfield 34, 3) := bdX0_become_61 (99, .putfield 34, 3) (List.mem_of_getElem? (i := 22) rfl)
theorem dX0_become_102 : decode cX0_become 102 = .ok (.aload_n 0, 1) := bdX0_become_61 (102, .aload_n 0, 1) (List.mem_of_getElem? (i := 23) rfl)
theorem dX0_become_103 : decode cX0_become 103 = .ok (.aload_n 1, 1) := bdX0_become_61 (103, .aload_n 1, 1) (List.mem_of_getElem? (i := 24) rfl)
theorem dX0_become_104 : decode cX0_become 104 = .ok (.getfield 37, 3) := bdX0_become_61 (104, .getfield 37, 3) (List.mem_of_getElem? (i := 25) rfl)
theorem dX0_become_107 : decode cX0_become 107 = .ok (.putfield 37, 3) := bdX0_become_61 (107, .putfield 37, 3) (List.mem_of_getElem? (i := 26) rfl)
theorem dX0_become_110 : decode cX0_become 110 = .ok (.aload_n 0, 1) := bdX0_become_61 (110, .aload_n 0, 1) (List.mem_of_getElem? (i := 27) rfl)
theorem dX0_become_111 : decode cX0_become 111 = .ok (.aload_n 1, 1) := bdX0_become_61 (111, .aload_n 1, 1) (List.mem_of_getElem? (i := 28) rfl)
theorem dX0_become_112 : decode cX0_become 112 = .ok (.getfield 40, 3) := bdX0_become_61 (112, .getfield 40, 3) (List.mem_of_getElem? (i := 29) rfl)
theorem dX0_become_115 : decode cX0_become 115 = .ok (.putfield 40, 3) := bdX0_become_61 (115, .putfield 40, 3) (List.mem_of_getElem? (i := 30) rfl)
theorem dX0_become_118 : decode cX0_become 118 = .ok (.iconst 0, 1) := bdX0_become_61 (118, .iconst 0, 1) (List.mem_of_getElem? (i := 31) rfl)
theorem dX0_become_119 : decode cX0_become 119 = .ok (.istore_n 2, 1) := bdX0_become_61 (119, .istore_n 2, 1) (List.mem_of_getElem? (i := 32) rfl)
theorem dX0_become_120 : decode cX0_become 120 = .ok (.iload_n 2, 1) := bdX0_become_61 (120, .iload_n 2, 1) (List.mem_of_getElem? (i := 33) rfl)
theorem dX0_become_121 : decode cX0_become 121 = .ok (.bipush 14, 2) := bdX0_become_61 (121, .bipush 14, 2) (List.mem_of_getElem? (i := 34) rfl)
theorem dX0_become_123 : decode cX0_become 123 = .ok (.if_icmp .ge 21, 3) := bdX0_become_61 (123, .if_icmp .ge 21, 3) (List.mem_of_getElem? (i := 35) rfl)
theorem dX0_become_126 : decode cX0_become 126 = .ok (.aload_n 0, 1) := bdX0_become_61 (126, .aload_n 0, 1) (List.mem_of_getElem? (i := 36) rfl)
theorem dX0_become_127 : decode cX0_become 127 = .ok (.getfield 45, 3) := bdX0_become_61 (127, .getfield 45, 3) (List.mem_of_getElem? (i := 37) rfl)
theorem dX0_become_130 : decode cX0_become 130 = .ok (.iload_n 2, 1) := bdX0_become_61 (130, .iload_n 2, 1) (List.mem_of_getElem? (i := 38) rfl)
theorem dX0_become_131 : decode cX0_become 131 = .ok (.aload_n 1, 1) := bdX0_become_61 (131, .aload_n 1, 1) (List.mem_of_getElem? (i := 39) rfl)
theorem bdX0_become_132 : ∀ q ∈ ([(132, .getfield 45, 3), (135, .iload_n 2, 1), (136, .aaload, 1), (138, .iinc 2 1, 3), (141, .goto (-21), 3), (144, .aload_n 0, 1), (145, .aload_n 1, 1), (146, .getfield 49, 3), (149, .putfield 49, 3), (152, .return_, 1)] : List (Nat × Jvm.ClassFile.Instr × Nat)), decode cX0_become q.1 = .ok q.2 := chk_ok _ 132 _ rfl (by decide +kernel)
theorem dX0_become_132 : decode cX0_become 132 = .ok (.getfield 45, 3) := bdX0_become_132 (132, .getfield 45, 3) (List.mem_of_getElem? (i := 0) rfl)
theorem dX0_become_135 : decode cX0_become 135 = .ok (.iload_n 2, 1) := bdX0_become_132 (135, .iload_n 2, 1) (List.mem_of_getElem? (i := 1) rfl)
theorem dX0_become_136 : decode cX0_become 136 = .ok (.aaload, 1) := bdX0_become_132 (136, .aaload, 1) (List.mem_of_getElem? (i := 2) rfl)
theorem dX0_become_138 : decode cX0_become 138 = .ok (.iinc 2 1, 3) := bdX0_become_132 (138, .iinc 2 1, 3) (List.mem_of_getElem? (i := 3) rfl)
theorem dX0_become_141 : decode cX0_become 141 = .ok (.goto (-21), 3) := bdX0_become_132 (141, .goto (-21), 3) (List.mem_of_getElem? (i := 4) rfl)
theorem dX0_become_144 : decode cX0_become 144 = .ok (.aload_n 0, 1) := bdX0_become_132 (144, .aload_n 0, 1) (List.mem_of_getElem? (i := 5) rfl)
theorem dX0_become_145 : decode cX0_become 145 = .ok (.aload_n 1, 1) := bdX0_become_132 (145, .aload_n 1, 1) (List.mem_of_getElem? (i := 6) rfl)
theorem dX0_become_146 : decode cX0_become 146 = .ok (.getfield 49, 3) := bdX0_become_132 (146, .getfield 49, 3) (List.mem_of_getElem? (i := 7) rfl)
theorem dX0_become_149 : decode cX0_become 149 = .ok (.putfield 49, 3) := bdX0_become_132 (149, .putfield 49, 3) (List.mem_of_getElem? (i := 8) rfl)
theorem dX0_become_152 : decode cX0_become 152 = .ok (.return_, 1) := bdX0_become_132 (152, .return_, 1) (List.mem_of_getElem? (i := 9) rfl)
theorem dX0_become_137 : decode cX0_become 137 = .ok (.aastore, 1) := by decide +kernel
def LX0_become_120 (ln : Nat → Nat) (post : HC → Prop) : Nat → HC → Nat → Nat → Int32 → Prop
  | 0 => fun _ _ _ _ => False
  | n120 + 1 => fun S x0 x1 x2 => if (14 : Int32) ≤ x2 then (lt_ (hI S x1 11) fun z1 => lt_ (sI S x0 11 z1) fun S => post S) else (dn_ (hR S x0 10) fun b2 => dn_ (hR S x1 10) fun b3 => al_ (ln b3) x2 (hR S b3) fun o4 => as_ (ln b2) x2 (fun j => sR S b2 j o4) fun S => lt_ (x2 + (1 : Int32)) fun z5 => (LX0_become_120 ln post n120) S x0 x1 z5)
def LX0_become_2 (ln : Nat → Nat) (post : HC → Prop) : Nat → HC → Nat → Nat → Int32 → Prop
  | 0 => fun _ _ _ _ => False
  | n2 + 1 => fun S x0 x1 x2 => if (14 : Int32) ≤ x2 then (lt_ (hI S x1 6) fun z6 => lt_ (sI S x0 6 z6) fun S => lt_ (hI S x1 7) fun z7 => lt_ (sI S x0 7 z7) fun S => lt_ (hI S x1 8) fun z8 => lt_ (sI S x0 8 z8) fun S => lt_ (hI S x1 9) fun z9 => lt_ (sI S x0 9 z9) fun S => ∃ n120, LX0_become_120 ln post n120 S x0 x1 (0 : Int32)) else (dn_ (hR S x0 0) fun b10 => dn_ (hR S x1 0) fun b11 => al_ (ln b11) x2 (hI S b11) fun z12 => as_ (ln b10) x2 (fun j => sI S b10 j z12) fun S => dn_ (hR S x0 1) fun b13 => dn_ (hR S x1 1) fun b14 => al_ (ln b14) x2 (hI S b14) fun z15 => as_ (ln b13) x2 (fun j => sI S b13 j z15) fun S => dn_ (hR S x0 2) fun b16 => dn_ (hR S x1 2) fun b17 => al_ (ln b17) x2 (hI S b17) fun z18 => as_ (ln b16) x2 (fun j => sI S b16 j z18) fun S => dn_ (hR S x0 3) fun b19 => dn_ (hR S x1 3) fun b20 => al_ (ln b20) x2 (hI S b20) fun z21 => as_ (ln b19) x2 (fun j => sI S b19 j z21) fun S => dn_ (hR S x0 4) fun b22 => dn_ (hR S x1 4) fun b23 => al_ (ln b23) x2 (hI S b23) fun z24 => as_ (ln b22) x2 (fun j => sI S b22 j z24) fun S => dn_ (hR S x0 5) fun b25 => dn_ (hR S x1 5) fun b26 => al_ (ln b26) x2 (hI S b26) fun z27 => as_ (ln b25) x2 (fun j => sI S b25 j z27) fun S => lt_ (x2 + (1 : Int32)) fun z28 => (LX0_become_2 ln post n2) S x0 x1 z28)
def wpX0_become (ln : Nat → Nat) (S : HC) (a0 : Nat) (a1 : Nat) (post : HC → Prop) : Prop := ∃ n2, LX0_become_2 ln post n2 S a0 a1 (0 : Int32)
abbrev rmX0_become : Room := { frames := 0, cells := 0, slots := 0, locals := 0 }
set_option maxHeartbeats 4000000 in
set_option maxRecDepth 100000 in
theorem ctX0_become {l : Launch} {g : GX} {N : Nat} {ln : Nat → Nat} {S : HC} {a0 : Nat} {a1 : Nat} {post : HC → Prop} (hr_a0 : a0 < N) (hk_a0 : kd a0 = 0) (hr_a1 : a1 < N) (hk_a1 : kd a1 = 0) (h : wpX0_become ln S a0 a1 post) : Met l yX0_become (Cond.code yX0_become prog_2_method_2_code 3 (Option.none : Option Jvm.ClassFile.FieldType) :: gtbl) rmX0_become (va_Pc [.ref (gz g + a0), .ref (gz g + a1)] (AtP g N ln S)) (QV g N ln post) 0 0 (gF g) := by
  refine m_of (by decide) (Nat.le_of_ble_eq_true rfl) ?_
  intro p e s m below meth c ls F hr I hl
  have hl : lv_has ls 3 [(0, .ref (gz g + a0)), (1, .ref (gz g + a1))] := hl
  unfold wpX0_become at h
  have hl_120 : ∀ n120 : Nat, ∀ (S : HC) (H : Heap) (locs : List Loc) (ls : Array Slot) (x0 : Nat) (x1 : Nat) (x2 : Int32), x0 < N → kd x0 = 0 → x1 < N → kd x1 = 0 → LX0_become_120 ln post n120 S x0 x1 x2 → Inv g N ln S s H locs → lv_has ls 3 [(0, .ref (gz g + x0)), (1, .ref (gz g + x1)), (2, .int x2)] → W p l e rmX0_become s m ([.ref (gz g + a0), .ref (gz g + a1)] : List Value).toArray below meth c H locs 0 0 (MQ below (QV g N ln post) ([.ref (gz g + a0), .ref (gz g + a1)] : List Value).toArray s 0 0 (gF g)) (F0 m 120 ls []) := by
    intro n120
    induction n120 with
    | zero =>
      intro S H locs ls x0 x1 x2 hr_x0 hk_x0 hr_x1 hk_x1 h I hl
      exact h.elim
    | succ n120 ih =>
      have hk120 := ih
      intro S H locs ls x0 x1 x2 hr_x0 hk_x0 hr_x1 hk_x1 h I hl
      rw [LX0_become_120] at h
      refine lv_iload_n F.1 F.2.1 dX0_become_120 rfl (lv_at hl 2 rfl) ?_
      refine lv_bipush (v := 14) F.1 F.2.1 dX0_become_121 (by decide) ?_
      refine r_icmp_ge (tgt := 144) F dX0_become_123 (by decide) h (fun h => ?_) (fun h => ?_)
      · refine lv_aload_n F.1 F.2.1 dX0_become_144 rfl (lv_at hl 0 rfl) ?_
        refine lv_aload_n F.1 F.2.1 dX0_become_145 rfl (lv_at hl 1 rfl) ?_
        refine r_getI F I hr_x1 hk_x1 fX0_49 rfl dX0_become_146 h (fun z1 h => ?_)
        refine r_putI F I hr_x0 hk_x0 fX0_49 rfl (Or.inl rfl) ⟨rfl, rfl⟩ dX0_become_149 h (fun S H locs I h => ?_)
        exact r_vreturn F I ⟨hr.1, hr.2.1, trivial⟩ h dX0_become_152
      · refine lv_aload_n F.1 F.2.1 dX0_become_126 rfl (lv_at hl 0 rfl) ?_
        refine r_getN F I hr_x0 hk_x0 fX0_45 (f := 13) rfl (by decide) dX0_become_127 h (fun b2 hr_b2 hk_b2 h => ?_)
        refine lv_iload_n F.1 F.2.1 dX0_become_130 rfl (lv_at hl 2 rfl) ?_
        refine lv_aload_n F.1 F.2.1 dX0_become_131 rfl (lv_at hl 1 rfl) ?_
        refine r_getN F I hr_x1 hk_x1 fX0_45 (f := 13) rfl (by decide) dX0_become_132 h (fun b3 hr_b3 hk_b3 h => ?_)
        refine lv_iload_n F.1 F.2.1 dX0_become_135 rfl (lv_at hl 2 rfl) ?_
        refine r_aldO F I hr_b3 hk_b3 (by decide) (f := 1) rfl dX0_become_136 h (fun o4 ho_o4 h => ?_)
        refine r_astO F I hr_b2 hk_b2 (by decide) (f := 1) rfl ho_o4 dX0_become_137 h (fun S H locs I h => ?_)
        obtain ⟨z5, e_z5, h⟩ := lt_x h
        refine lv_iinc (v := z5) (lv' := [(2, .int z5), (0, .ref (gz g + x0)), (1, .ref (gz g + x1))]) F.1 F.2.1 dX0_become_138 hl (k := 2) rfl (by rw [e_z5]; rfl) (by decide) rfl (fun ls hl => ?_)
        refine lv_goto (tgt := 120) F.1 F.2.1 dX0_become_141 (by decide) ?_
        exact hk120 S _ _ _ x0 x1 z5 hr_x0 hk_x0 hr_x1 hk_x1 h I (lv_sub hl [1, 2, 0] rfl)
  have hl_2 : ∀ n2 : Nat, ∀ (S : HC) (H : Heap) (locs : List Loc) (ls : Array Slot) (x0 : Nat) (x1 : Nat) (x2 : Int32), x0 < N → kd x0 = 0 → x1 < N → kd x1 = 0 → LX0_become_2 ln post n2 S x0 x1 x2 → Inv g N ln S s H locs → lv_has ls 3 [(0, .ref (gz g + x0)), (1, .ref (gz g + x1)), (2, .int x2)] → W p l e rmX0_become s m ([.ref (gz g + a0), .ref (gz g + a1)] : List Value).toArray below meth c H locs 0 0 (MQ below (QV g N ln post) ([.ref (gz g + a0), .ref (gz g + a1)] : List Value).toArray s 0 0 (gF g)) (F0 m 2 ls []) := by
    intro n2
    induction n2 with
    | zero =>
      intro S H locs ls x0 x1 x2 hr_x0 hk_x0 hr_x1 hk_x1 h I hl
      exact h.elim
    | succ n2 ih =>
      have hk2 := ih
      intro S H locs ls x0 x1 x2 hr_x0 hk_x0 hr_x1 hk_x1 h I hl
      rw [LX0_become_2] at h
      refine lv_iload_n F.1 F.2.1 dX0_become_2 rfl (lv_at hl 2 rfl) ?_
      refine lv_bipush (v := 14) F.1 F.2.1 dX0_become_3 (by decide) ?_
      refine r_icmp_ge (tgt := 86) F dX0_become_5 (by decide) h (fun h => ?_) (fun h => ?_)
      · refine lv_aload_n F.1 F.2.1 dX0_become_86 rfl (lv_at hl 0 rfl) ?_
        refine lv_aload_n F.1 F.2.1 dX0_become_87 rfl (lv_at hl 1 rfl) ?_
        refine r_getI F I hr_x1 hk_x1 fX0_30 rfl dX0_become_88 h (fun z6 h => ?_)
        refine r_putI F I hr_x0 hk_x0 fX0_30 rfl (Or.inl rfl) ⟨rfl, rfl⟩ dX0_become_91 h (fun S H locs I h => ?_)
        refine lv_aload_n F.1 F.2.1 dX0_become_94 rfl (lv_at hl 0 rfl) ?_
        refine lv_aload_n F.1 F.2.1 dX0_become_95 rfl (lv_at hl 1 rfl) ?_
        refine r_getI F I hr_x1 hk_x1 fX0_34 rfl dX0_become_96 h (fun z7 h => ?_)
        refine r_putI F I hr_x0 hk_x0 fX0_34 rfl (Or.inl rfl) ⟨rfl, rfl⟩ dX0_become_99 h (fun S H locs I h => ?_)
        refine lv_aload_n F.1 F.2.1 dX0_become_102 rfl (lv_at hl 0 rfl) ?_
        refine lv_aload_n F.1 F.2.1 dX0_become_103 rfl (lv_at hl 1 rfl) ?_
        refine r_getI F I hr_x1 hk_x1 fX0_37 rfl dX0_become_104 h (fun z8 h => ?_)
        refine r_putI F I hr_x0 hk_x0 fX0_37 rfl (Or.inl rfl) ⟨rfl, rfl⟩ dX0_become_107 h (fun S H locs I h => ?_)
        refine lv_aload_n F.1 F.2.1 dX0_become_110 rfl (lv_at hl 0 rfl) ?_
        refine lv_aload_n F.1 F.2.1 dX0_become_111 rfl (lv_at hl 1 rfl) ?_
        refine r_getI F I hr_x1 hk_x1 fX0_40 rfl dX0_become_112 h (fun z9 h => ?_)
        refine r_putI F I hr_x0 hk_x0 fX0_40 rfl (Or.inl rfl) ⟨rfl, rfl⟩ dX0_become_115 h (fun S H locs I h => ?_)
        refine lv_iconst (v := 0) F.1 F.2.1 dX0_become_118 (by decide) ?_
        refine lv_istore_n (lv' := [(2, .int (0 : Int32)), (0, .ref (gz g + x0)), (1, .ref (gz g + x1))]) F.1 F.2.1 dX0_become_119 rfl hl (by decide) rfl (fun ls hl => ?_)
        obtain ⟨n120, h⟩ := h
        exact hl_120 n120 S _ _ _ x0 x1 (0 : Int32) hr_x0 hk_x0 hr_x1 hk_x1 h I (lv_sub hl [1, 2, 0] rfl)
      · refine lv_aload_n F.1 F.2.1 dX0_become_8 rfl (lv_at hl 0 rfl) ?_
        refine r_getN F I hr_x0 hk_x0 fX0_9 (f := 9) rfl (by decide) dX0_become_9 h (fun b10 hr_b10 hk_b10 h => ?_)
        refine lv_iload_n F.1 F.2.1 dX0_become_12 rfl (lv_at hl 2 rfl) ?_
        refine lv_aload_n F.1 F.2.1 dX0_become_13 rfl (lv_at hl 1 rfl) ?_
        refine r_getN F I hr_x1 hk_x1 fX0_9 (f := 9) rfl (by decide) dX0_become_14 h (fun b11 hr_b11 hk_b11 h => ?_)
        refine lv_iload_n F.1 F.2.1 dX0_become_17 rfl (lv_at hl 2 rfl) ?_
        refine r_ald F I hr_b11 hk_b11 dX0_become_18 h (fun z12 h => ?_)
        refine r_ast F I hr_b10 hk_b10 dX0_become_19 h (fun S H locs I h => ?_)
        refine lv_aload_n F.1 F.2.1 dX0_become_20 rfl (lv_at hl 0 rfl) ?_
        refine r_getN F I hr_x0 hk_x0 fX0_15 (f := 9) rfl (by decide) dX0_become_21 h (fun b13 hr_b13 hk_b13 h => ?_)
        refine lv_iload_n F.1 F.2.1 dX0_become_24 rfl (lv_at hl 2 rfl) ?_
        refine lv_aload_n F.1 F.2.1 dX0_become_25 rfl (lv_at hl 1 rfl) ?_
        refine r_getN F I hr_x1 hk_x1 fX0_15 (f := 9) rfl (by decide) dX0_become_26 h (fun b14 hr_b14 hk_b14 h => ?_)
        refine lv_iload_n F.1 F.2.1 dX0_become_29 rfl (lv_at hl 2 rfl) ?_
        refine r_ald F I hr_b14 hk_b14 dX0_become_30 h (fun z15 h => ?_)
        refine r_ast F I hr_b13 hk_b13 dX0_become_31 h (fun S H locs I h => ?_)
        refine lv_aload_n F.1 F.2.1 dX0_become_32 rfl (lv_at hl 0 rfl) ?_
        refine r_getN F I hr_x0 hk_x0 fX0_18 (f := 9) rfl (by decide) dX0_become_33 h (fun b16 hr_b16 hk_b16 h => ?_)
        refine lv_iload_n F.1 F.2.1 dX0_become_36 rfl (lv_at hl 2 rfl) ?_
        refine lv_aload_n F.1 F.2.1 dX0_become_37 rfl (lv_at hl 1 rfl) ?_
        refine r_getN F I hr_x1 hk_x1 fX0_18 (f := 9) rfl (by decide) dX0_become_38 h (fun b17 hr_b17 hk_b17 h => ?_)
        refine lv_iload_n F.1 F.2.1 dX0_become_41 rfl (lv_at hl 2 rfl) ?_
        refine r_ald F I hr_b17 hk_b17 dX0_become_42 h (fun z18 h => ?_)
        refine r_ast F I hr_b16 hk_b16 dX0_become_43 h (fun S H locs I h => ?_)
        refine lv_aload_n F.1 F.2.1 dX0_become_44 rfl (lv_at hl 0 rfl) ?_
        refine r_getN F I hr_x0 hk_x0 fX0_21 (f := 9) rfl (by decide) dX0_become_45 h (fun b19 hr_b19 hk_b19 h => ?_)
        refine lv_iload_n F.1 F.2.1 dX0_become_48 rfl (lv_at hl 2 rfl) ?_
        refine lv_aload_n F.1 F.2.1 dX0_become_49 rfl (lv_at hl 1 rfl) ?_
        refine r_getN F I hr_x1 hk_x1 fX0_21 (f := 9) rfl (by decide) dX0_become_50 h (fun b20 hr_b20 hk_b20 h => ?_)
        refine lv_iload_n F.1 F.2.1 dX0_become_53 rfl (lv_at hl 2 rfl) ?_
        refine r_ald F I hr_b20 hk_b20 dX0_become_54 h (fun z21 h => ?_)
        refine r_ast F I hr_b19 hk_b19 dX0_become_55 h (fun S H locs I h => ?_)
        refine lv_aload_n F.1 F.2.1 dX0_become_56 rfl (lv_at hl 0 rfl) ?_
        refine r_getN F I hr_x0 hk_x0 fX0_24 (f := 9) rfl (by decide) dX0_become_57 h (fun b22 hr_b22 hk_b22 h => ?_)
        refine lv_iload_n F.1 F.2.1 dX0_become_60 rfl (lv_at hl 2 rfl) ?_
        refine lv_aload_n F.1 F.2.1 dX0_become_61 rfl (lv_at hl 1 rfl) ?_
        refine r_getN F I hr_x1 hk_x1 fX0_24 (f := 9) rfl (by decide) dX0_become_62 h (fun b23 hr_b23 hk_b23 h => ?_)
        refine lv_iload_n F.1 F.2.1 dX0_become_65 rfl (lv_at hl 2 rfl) ?_
        refine r_ald F I hr_b23 hk_b23 dX0_become_66 h (fun z24 h => ?_)
        refine r_ast F I hr_b22 hk_b22 dX0_become_67 h (fun S H locs I h => ?_)
        refine lv_aload_n F.1 F.2.1 dX0_become_68 rfl (lv_at hl 0 rfl) ?_
        refine r_getN F I hr_x0 hk_x0 fX0_27 (f := 9) rfl (by decide) dX0_become_69 h (fun b25 hr_b25 hk_b25 h => ?_)
        refine lv_iload_n F.1 F.2.1 dX0_become_72 rfl (lv_at hl 2 rfl) ?_
        refine lv_aload_n F.1 F.2.1 dX0_become_73 rfl (lv_at hl 1 rfl) ?_
        refine r_getN F I hr_x1 hk_x1 fX0_27 (f := 9) rfl (by decide) dX0_become_74 h (fun b26 hr_b26 hk_b26 h => ?_)
        refine lv_iload_n F.1 F.2.1 dX0_become_77 rfl (lv_at hl 2 rfl) ?_
        refine r_ald F I hr_b26 hk_b26 dX0_become_78 h (fun z27 h => ?_)
        refine r_ast F I hr_b25 hk_b25 dX0_become_79 h (fun S H locs I h => ?_)
        obtain ⟨z28, e_z28, h⟩ := lt_x h
        refine lv_iinc (v := z28) (lv' := [(2, .int z28), (0, .ref (gz g + x0)), (1, .ref (gz g + x1))]) F.1 F.2.1 dX0_become_80 hl (k := 2) rfl (by rw [e_z28]; rfl) (by decide) rfl (fun ls hl => ?_)
        refine lv_goto (tgt := 2) F.1 F.2.1 dX0_become_83 (by decide) ?_
        exact hk2 S _ _ _ x0 x1 z28 hr_x0 hk_x0 hr_x1 hk_x1 h I (lv_sub hl [1, 2, 0] rfl)
  refine lv_iconst (v := 0) F.1 F.2.1 dX0_become_0 (by decide) ?_
  refine lv_istore_n (lv' := [(2, .int (0 : Int32)), (0, .ref (gz g + a0)), (1, .ref (gz g + a1))]) F.1 F.2.1 dX0_become_1 rfl hl (by decide) rfl (fun ls hl => ?_)
  obtain ⟨n2, h⟩ := h
  exact hl_2 n2 S _ _ _ a0 a1 (0 : Int32) hr_a0 hk_a0 hr_a1 hk_a1 h I (lv_sub hl [1, 2, 0] rfl)
