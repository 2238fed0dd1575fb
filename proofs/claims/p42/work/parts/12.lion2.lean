theorem bdX7_sheet_0 : ∀ q ∈ ([(0, .iload_n 1, 1), (1, .invokestatic 200, 3), (4, .ifCond .eq 13, 3), (7, .iload_n 2, 1), (8, .iconst (-1), 1), (9, .if_icmp .lt 8, 3), (12, .iload_n 2, 1), (13, .iconst 1, 1), (14, .if_icmp .le 6, 3), (17, .ldc 73, 2), (19, .ireturn, 1), (20, .iload_n 2, 1), (21, .iconst (-1), 1), (22, .if_icmp .ne 16, 3), (25, .aload_n 0, 1), (26, .getfield 42, 3), (29, .iload_n 1, 1), (30, .aaload, 1), (31, .iconst (-1), 1), (32, .iconst 0, 1), (33, .invokevirtual 259, 3), (36, .iconst 0, 1), (37, .ireturn, 1), (38, .iload_n 3, 1), (39, .bipush 24, 2), (41, .if_icmp .le 6, 3), (44, .ldc 73, 2), (46, .ireturn, 1), (47, .iload_n 3, 1), (48, .ifCond .ge 7, 3), (51, .ldc_w 262, 3), (54, .ireturn, 1), (55, .aload_n 0, 1), (56, .getfield 42, 3), (59, .iload_n 1, 1), (60, .aaload, 1), (61, .iload_n 2, 1), (62, .iload_n 3, 1), (63, .invokevirtual 259, 3), (66, .iload_n 3, 1)] : List (Nat × Jvm.ClassFile.Instr × Nat)), decode cX7_sheet q.1 = .ok q.2 := chk_ok _ 0 _ rfl (by decide +kernel)
theorem dX7_sheet_0 : decode cX7_sheet 0 = .ok (.iload_n 1, 1) := bdX7_sheet_0 (0, .iload_n 1, 1) (List.mem_of_getElem? (i := 0) rfl)
theorem dX7_sheet_1 : decode cX7_sheet 1 = .ok (.invokestatic 200, 3) := bdX7_sheet_0 (1, .invokestatic 200, 3) (List.mem_of_getElem? (i := 1) rfl)
theorem dX7_sheet_4 : decode cX7_sheet 4 = .ok (.ifCond .eq 13, 3) := bdX7_sheet_0 (4, .ifCond .eq 13, 3) (List.mem_of_getElem? (i := 2) rfl)
theorem dX7_sheet_7 : decode cX7_sheet 7 = .ok (.iload_n 2, 1) := bdX7_sheet_0 (7, .iload_n 2, 1) (List.mem_of_getElem? (i := 3) rfl)
theorem dX7_sheet_8 : decode cX7_sheet 8 = .ok (.iconst (-1), 1) := bdX7_sheet_0 (8, .iconst (-1), 1) (List.mem_of_getElem? (i := 4) rfl)
theorem dX7_sheet_9 : decode cX7_sheet 9 = .ok (.if_icmp .lt 8, 3) := bdX7_sheet_0 (9, .if_icmp .lt 8, 3) (List.mem_of_getElem? (i := 5) rfl)
theorem dX7_sheet_12 : decode cX7_sheet 12 = .ok (.iload_n 2, 1) := bdX7_sheet_0 (12, .iload_n 2, 1) (List.mem_of_getElem? (i := 6) rfl)
theorem dX7_sheet_13 : decode cX7_sheet 13 = .ok (.iconst 1, 1) := bdX7_sheet_0 (13, .iconst 1, 1) (List.mem_of_getElem? (i := 7) rfl)
theorem dX7_sheet_14 : decode cX7_sheet 14 = .ok (.if_icmp .le 6, 3) := bdX7_sheet_0 (14, .if_icmp .le 6, 3) (List.mem_of_getElem? (i := 8) rfl)
theorem dX7_sheet_17 : decode cX7_sheet 17 = .ok (.ldc 73, 2) := bdX7_sheet_0 (17, .ldc 73, 2) (List.mem_of_getElem? (i := 9) rfl)
theorem dX7_sheet_19 : decode cX7_sheet 19 = .ok (.ireturn, 1) := bdX7_sheet_0 (19, .ireturn, 1) (List.mem_of_getElem? (i := 10) rfl)
theorem dX7_sheet_20 : decode cX7_sheet 20 = .ok (.iload_n 2, 1) := bdX7_sheet_0 (20, .iload_n 2, 1) (List.mem_of_getElem? (i := 11) rfl)
theorem dX7_sheet_21 : decode cX7_sheet 21 = .ok (.iconst (-1), 1) := bdX7_sheet_0 (21, .iconst (-1), 1) (List.mem_of_getElem? (i := 12) rfl)
theorem dX7_sheet_22 : decode cX7_sheet 22 = .ok (.if_icmp .ne 16, 3) := bdX7_sheet_0 (22, .if_icmp .ne 16, 3) (List.mem_of_getElem? (i := 13) rfl)
theorem dX7_sheet_25 : decode cX7_sheet 25 = .ok (.aload_n 0, 1) := bdX7_sheet_0 (25, .aload_n 0, 1) (List.mem_of_getElem? (i := 14) rfl)
theorem dX7_sheet_26 : decode cX7_sheet 26 = .ok (.getfield 42, 3) := bdX7_sheet_0 (26, .getfield 42, 3) (List.mem_of_getElem? (i := 15) rfl)
theorem dX7_sheet_29 : decode cX7_sheet 29 = .ok (.iload_n 1, 1) := bdX7_sheet_0 (29, .iload_n 1, 1) (List.mem_of_getElem? (i := 16) rfl)
theorem dX7_sheet_30 : decode cX7_sheet 30 = .ok (.aaload, 1) := bdX7_sheet_0 (30, .aaload, 1) (List.mem_of_getElem? (i := 17) rfl)
theorem dX7_sheet_31 : decode cX7_sheet 31 = .ok (.iconst (-1), 1) := bdX7_sheet_0 (31, .iconst (-1), 1) (List.mem_of_getElem? (i := 18) rfl)
theorem dX7_sheet_32 : decode cX7_sheet 32 = .ok (.iconst 0, 1) := bdX7_sheet_0 (32, .iconst 0, 1) (List.mem_of_getElem? (i := 19) rfl)
theorem dX7_sheet_33 : decode cX7_sheet 33 = .ok (.invokevirtual 259, 3) := bdX7_sheet_0 (33, .invokevirtual 259, 3) (List.mem_of_getElem? (i := 20) rfl)
theorem dX7_sheet_36 : decode cX7_sheet 36 = .ok (.iconst 0, 1) := bdX7_sheet_0 (36, .iconst 0, 1) (List.mem_of_getElem? (i := 21) rfl)
theorem dX7_sheet_37 : decode cX7_sheet 37 = .ok (.ireturn, 1) := bdX7_sheet_0 (37, .ireturn, 1) (List.mem_of_getElem? (i := 22) rfl)
theorem dX7_sheet_38 : decode cX7_sheet 38 = .ok (.iload_n 3, 1) := bdX7_sheet_0 (38, .iload_n 3, 1) (List.mem_of_getElem? (i := 23) rfl)
theorem dX7_sheet_39 : decode cX7_sheet 39 = .ok (.bipush 24, 2) := bdX7_sheet_0 (39, .bipush 24, 2) (List.mem_of_getElem? (i := 24) rfl)
theorem dX7_sheet_41 : decode cX7_sheet 41 = .ok (.if_icmp .le 6, 3) := bdX7_sheet_0 (41, .if_icmp .le 6, 3) (List.mem_of_getElem? (i := 25) rfl)
theorem dX7_sheet_44 : decode cX7_sheet 44 = .ok (.ldc 73, 2) := bdX7_sheet_0 (44, .ldc 73, 2) (List.mem_of_getElem? (i := 26) rfl)
theorem dX7_sheet_46 : decode cX7_sheet 46 = .ok (.ireturn, 1) := bdX7_sheet_0 (46, .ireturn, 1) (List.mem_of_getElem? (i := 27) rfl)
theorem dX7_sheet_47 : decode cX7_sheet 47 = .ok (.iload_n 3, 1) := bdX7_sheet_0 (47, .iload_n 3, 1) (List.mem_of_getElem? (i := 28) rfl)
theorem dX7_sheet_48 : decode cX7_sheet 48 = .ok (.ifCond .ge 7, 3) := bdX7_sheet_0 (48, .ifCond .ge 7, 3) (List.mem_of_getElem? (i := 29) rfl)
theorem dX7_sheet_51 : decode cX7_sheet 51 = .ok (.ldc_w 262, 3) := bdX7_sheet_0 (51, .ldc_w 262, 3) (List.mem_of_getElem? (i := 30) rfl)
theorem dX7_sheet_54 : decode cX7_sheet 54 = .ok (.ireturn, 1) := bdX7_sheet_0 (54, .ireturn, 1) (List.mem_of_getElem? (i := 31) rfl)
theorem dX7_sheet_55 : decode cX7_sheet 55 = .ok (.aload_n 0, 1) := bdX7_sheet_0 (55, .aload_n 0, 1) (List.mem_of_getElem? (i := 32) rfl)
theorem dX7_sheet_56 : decode cX7_sheet 56 = .ok (.getfield 42, 3) := bdX7_sheet_0 (56, .getfield 42, 3) (List.mem_of_getElem? (i := 33) rfl)
theorem dX7_sheet_59 : decode cX7_sheet 59 = .ok (.iload_n 1, 1) := bdX7_sheet_0 (59, .iload_n 1, 1) (List.mem_of_getElem? (i := 34) rfl)
theorem dX7_sheet_60 : decode cX7_sheet 60 = .ok (.aaload, 1) := bdX7_sheet_0 (60, .aaload, 1) (List.mem_of_getElem? (i := 35) rfl)
theorem dX7_sheet_61 : decode cX7_sheet 61 = .ok (.iload_n 2, 1) := bdX7_sheet_0 (61, .iload_n 2, 1) (List.mem_of_getElem? (i := 36) rfl)
theorem dX7_sheet_62 : decode cX7_sheet 62 = .ok (.iload_n 3, 1) := bdX7_sheet_0 (62, .iload_n 3, 1) (List.mem_of_getElem? (i := 37) rfl)
theorem dX7_sheet_63 : decode cX7_sheet 63 = .ok (.invokevirtual 259, 3) := bdX7_sheet_0 (63, .invokevirtual 259, 3) (List.mem_of_getElem? (i := 38) rfl)
theorem dX7_sheet_66 : decode cX7_sheet 66 = .ok (.iload_n 3, 1) := bdX7_sheet_0 (66, .iload_n 3, 1) (List.mem_of_getElem? (i := 39) rfl)
theorem bdX7_sheet_67 : ∀ q ∈ ([(67, .ireturn, 1)] : List (Nat × Jvm.ClassFile.Instr × Nat)), decode cX7_sheet q.1 = .ok q.2 := chk_ok _ 67 _ rfl (by decide +kernel)
theorem dX7_sheet_67 : decode cX7_sheet 67 = .ok (.ireturn, 1) := bdX7_sheet_67 (67, .ireturn, 1) (List.mem_of_getElem? (i := 0) rfl)
theorem kX7_259 : mthV RX7 259 3 yX3_beginAs prog_5_method_2_code 4 (Option.none : Option Jvm.ClassFile.FieldType) 2 := ⟨⟨⟨tw_845, tw_65, tw_848⟩, rfl, by decide +kernel⟩, tw_846, tw_847, rfl⟩
def BX7_sheet_17 (ln : Nat → Nat) (post : Int32 → HC → Prop) (S : HC)  : Prop := post (-1000000001 : Int32) S
def wpX7_sheet (ln : Nat → Nat) (S : HC) (a0 : Nat) (a1 : Int32) (a2 : Int32) (a3 : Int32) (post : Int32 → HC → Prop) : Prop := wpX7_isSheet ln S a1 fun z1 S => if z1 = 0 then (BX7_sheet_17 ln post S) else (if a2 < (-1 : Int32) then (BX7_sheet_17 ln post S) else (if a2 ≤ (1 : Int32) then (if a2 = (-1 : Int32) then (dn_ (hR S a0 6) fun b4 => al_ (ln b4) a1 (hR S b4) fun o => dn_ o fun b5 => wpX3_beginAs ln S b5 (-1 : Int32) (0 : Int32) fun S => post (0 : Int32) S) else (if a3 ≤ (24 : Int32) then (if 0 ≤ a3 then (dn_ (hR S a0 6) fun b2 => al_ (ln b2) a1 (hR S b2) fun o => dn_ o fun b3 => wpX3_beginAs ln S b3 a2 a3 fun S => post a3 S) else (post (-1000000014 : Int32) S)) else (post (-1000000001 : Int32) S))) else (BX7_sheet_17 ln post S)))
abbrev rmX7_sheet : Room := { frames := 1, cells := 0, slots := 0, locals := 23 }
set_option maxHeartbeats 4000000 in
set_option maxRecDepth 100000 in
theorem ctX7_sheet {l : Launch} {g : GX} {N : Nat} {ln : Nat → Nat} {S : HC} {a0 : Nat} {a1 : Int32} {a2 : Int32} {a3 : Int32} {post : Int32 → HC → Prop} (hr_a0 : a0 < N) (hk_a0 : kd a0 = 7) (h : wpX7_sheet ln S a0 a1 a2 a3 post) : Met l yX7_sheet (Cond.code yX7_sheet prog_1_method_29_code 4 (Option.some Jvm.ClassFile.FieldType.int) :: gtbl) rmX7_sheet (va_Pc [.ref (gz g + a0), .int a1, .int a2, .int a3] (AtP g N ln S)) (QI g N ln post) 0 0 (gF g) := by
  refine m_of (by decide) (Nat.le_of_ble_eq_true rfl) ?_
  intro p e s m below meth c ls F hr I hl
  have hl : lv_has ls 4 [(0, .ref (gz g + a0)), (1, .int a1), (2, .int a2), (3, .int a3)] := hl
  unfold wpX7_sheet at h
  have hj_17 : ∀ (S : HC) (H : Heap) (locs : List Loc) (ls : Array Slot), BX7_sheet_17 ln post S  → Inv g N ln S s H locs → lv_has ls 4 [] → W p l e rmX7_sheet s m ([.ref (gz g + a0), .int a1, .int a2, .int a3] : List Value).toArray below meth c H locs 0 0 (MQ below (QI g N ln post) ([.ref (gz g + a0), .int a1, .int a2, .int a3] : List Value).toArray s 0 0 (gF g)) (F0 m 17 ls []) := by
    intro S H locs ls h I hl
    unfold BX7_sheet_17 at h
    refine lv_ldc F.1 F.2.1 F.2.2.2.1 (F.2.2.2.2 _ tw_334) dX7_sheet_17 ?_
    exact r_ireturn F I ⟨hr.1, hr.2.1, trivial⟩ h dX7_sheet_19
  refine lv_iload_n F.1 F.2.1 dX7_sheet_0 rfl (lv_at hl 1 rfl) ?_
  refine g_I I (run_S (As := [.int a1]) (rest := []) F I kX7_200 (ctX7_isSheet h) ⟨rfl, rfl⟩ ⟨Nat.le_of_ble_eq_true rfl, Nat.le_of_ble_eq_true rfl⟩ rfl hl.1 rfl (Nat.le_of_ble_eq_true rfl) ⟨Nat.le_of_ble_eq_true rfl, Nat.le_of_ble_eq_true rfl⟩ dX7_sheet_1) (fun z1 S H locs I h => ?_)
  refine r_if_eq (tgt := 17) F dX7_sheet_4 (by decide) h (fun h => ?_) (fun h => ?_)
  · exact hj_17 S _ _ _   h I (lv_sub hl [] rfl)
  · refine lv_iload_n F.1 F.2.1 dX7_sheet_7 rfl (lv_at hl 2 rfl) ?_
    refine lv_iconst (v := -1) F.1 F.2.1 dX7_sheet_8 (by decide) ?_
    refine r_icmp_lt (tgt := 17) F dX7_sheet_9 (by decide) h (fun h => ?_) (fun h => ?_)
    · exact hj_17 S _ _ _   h I (lv_sub hl [] rfl)
    · refine lv_iload_n F.1 F.2.1 dX7_sheet_12 rfl (lv_at hl 2 rfl) ?_
      refine lv_iconst (v := 1) F.1 F.2.1 dX7_sheet_13 (by decide) ?_
      refine r_icmp_le (tgt := 20) F dX7_sheet_14 (by decide) h (fun h => ?_) (fun h => ?_)
      · refine lv_iload_n F.1 F.2.1 dX7_sheet_20 rfl (lv_at hl 2 rfl) ?_
        refine lv_iconst (v := -1) F.1 F.2.1 dX7_sheet_21 (by decide) ?_
        refine r_icmp_ne (tgt := 38) F dX7_sheet_22 (by decide) h (fun h => ?_) (fun h => ?_)
        · refine lv_iload_n F.1 F.2.1 dX7_sheet_38 rfl (lv_at hl 3 rfl) ?_
          refine lv_bipush (v := 24) F.1 F.2.1 dX7_sheet_39 (by decide) ?_
          refine r_icmp_le (tgt := 47) F dX7_sheet_41 (by decide) h (fun h => ?_) (fun h => ?_)
          · refine lv_iload_n F.1 F.2.1 dX7_sheet_47 rfl (lv_at hl 3 rfl) ?_
            refine r_if_ge (tgt := 55) F dX7_sheet_48 (by decide) h (fun h => ?_) (fun h => ?_)
            · refine lv_aload_n F.1 F.2.1 dX7_sheet_55 rfl (lv_at hl 0 rfl) ?_
              refine r_getN F I hr_a0 hk_a0 fX7_42 (f := 14) rfl (by decide) dX7_sheet_56 h (fun b2 hr_b2 hk_b2 h => ?_)
              refine lv_iload_n F.1 F.2.1 dX7_sheet_59 rfl (lv_at hl 1 rfl) ?_
              refine r_aldN F I hr_b2 hk_b2 (by decide) (f := 3) rfl dX7_sheet_60 h (fun b3 hr_b3 hk_b3 h => ?_)
              refine lv_iload_n F.1 F.2.1 dX7_sheet_61 rfl (lv_at hl 2 rfl) ?_
              refine lv_iload_n F.1 F.2.1 dX7_sheet_62 rfl (lv_at hl 3 rfl) ?_
              refine g_V I (run_V (As := [.int a2, .int a3]) (rest := []) F I hr_b3 hk_b3 (by decide) kX7_259 (ctX3_beginAs hr_b3 hk_b3 h) ⟨rfl, rfl⟩ ⟨Nat.le_of_ble_eq_true rfl, Nat.le_of_ble_eq_true rfl⟩ rfl hl.1 rfl (Nat.le_of_ble_eq_true rfl) ⟨Nat.le_of_ble_eq_true rfl, Nat.le_of_ble_eq_true rfl⟩ dX7_sheet_63) (fun S H locs I h => ?_)
              refine lv_iload_n F.1 F.2.1 dX7_sheet_66 rfl (lv_at hl 3 rfl) ?_
              exact r_ireturn F I ⟨hr.1, hr.2.1, trivial⟩ h dX7_sheet_67
            · refine lv_ldcw F.1 F.2.1 F.2.2.2.1 (F.2.2.2.2 _ tw_849) dX7_sheet_51 ?_
              exact r_ireturn F I ⟨hr.1, hr.2.1, trivial⟩ h dX7_sheet_54
          · refine lv_ldc F.1 F.2.1 F.2.2.2.1 (F.2.2.2.2 _ tw_334) dX7_sheet_44 ?_
            exact r_ireturn F I ⟨hr.1, hr.2.1, trivial⟩ h dX7_sheet_46
        · refine lv_aload_n F.1 F.2.1 dX7_sheet_25 rfl (lv_at hl 0 rfl) ?_
          refine r_getN F I hr_a0 hk_a0 fX7_42 (f := 14) rfl (by decide) dX7_sheet_26 h (fun b4 hr_b4 hk_b4 h => ?_)
          refine lv_iload_n F.1 F.2.1 dX7_sheet_29 rfl (lv_at hl 1 rfl) ?_
          refine r_aldN F I hr_b4 hk_b4 (by decide) (f := 3) rfl dX7_sheet_30 h (fun b5 hr_b5 hk_b5 h => ?_)
          refine lv_iconst (v := -1) F.1 F.2.1 dX7_sheet_31 (by decide) ?_
          refine lv_iconst (v := 0) F.1 F.2.1 dX7_sheet_32 (by decide) ?_
          refine g_V I (run_V (As := [.int (-1 : Int32), .int (0 : Int32)]) (rest := []) F I hr_b5 hk_b5 (by decide) kX7_259 (ctX3_beginAs hr_b5 hk_b5 h) ⟨rfl, rfl⟩ ⟨Nat.le_of_ble_eq_true rfl, Nat.le_of_ble_eq_true rfl⟩ rfl hl.1 rfl (Nat.le_of_ble_eq_true rfl) ⟨Nat.le_of_ble_eq_true rfl, Nat.le_of_ble_eq_true rfl⟩ dX7_sheet_33) (fun S H locs I h => ?_)
          refine lv_iconst (v := 0) F.1 F.2.1 dX7_sheet_36 (by decide) ?_
          exact r_ireturn F I ⟨hr.1, hr.2.1, trivial⟩ h dX7_sheet_37
      · exact hj_17 S _ _ _   h I (lv_sub hl [] rfl)
theorem bdX7_mark_0 : ∀ q ∈ ([(0, .iload_n 1, 1), (1, .invokestatic 200, 3), (4, .ifCond .ne 6, 3), (7, .ldc 73, 2), (9, .ireturn, 1), (10, .aload_n 0, 1), (11, .getfield 42, 3), (14, .iload_n 1, 1), (15, .aaload, 1), (18, .aload 4, 2), (20, .invokevirtual 203, 3), (23, .ifCond .eq 6, 3), (26, .ldc 206, 2), (28, .ireturn, 1), (29, .aload 4, 2), (31, .iload_n 2, 1), (32, .invokevirtual 263, 3), (35, .ifCond .ne 7, 3), (38, .ldc_w 266, 3), (41, .ireturn, 1), (42, .aload 4, 2), (44, .getfield 267, 3), (47, .ifCond .ne 23, 3), (50, .iload_n 3, 1), (51, .ldc 173, 2), (53, .if_icmp .ne 6, 3), (56, .ldc 128, 2), (58, .ireturn, 1), (59, .aload 4, 2), (61, .getfield 270, 3), (64, .iload_n 2, 1), (65, .iload_n 3, 1), (67, .iastore, 1), (68, .iconst 1, 1), (69, .ireturn, 1), (70, .iload_n 3, 1), (71, .ldc 173, 2), (73, .if_icmp .eq 20, 3), (76, .iload_n 3, 1), (77, .ldc_w 273, 3)] : List (Nat × Jvm.ClassFile.Instr × Nat)), decode cX7_mark q.1 = .ok q.2 := chk_ok _ 0 _ rfl (by decide +kernel)
theorem dX7_mark_0 : decode cX7_mark 0 = .ok (.iload_n 1, 1) := bdX7_mark_0 (0, .iload_n 1, 1) (List.mem_of_getElem? (i := 0) rfl)
theorem dX7_mark_1 : decode cX7_mark 1 = .ok (.invokestatic 200, 3) := bdX7_mark_0 (1, .invokestatic 200, 3) (List.mem_of_getElem? (i := 1) rfl)
theorem dX7_mark_4 : decode cX7_mark 4 = .ok (.ifCond .ne 6, 3) := bdX7_mark_0 (4, .ifCond .ne 6, 3) (List.mem_of_getElem? (i := 2) rfl)
theorem dX7_mark_7 : decode cX7_mark 7 = .ok (.ldc 73, 2) := bdX7_mark_0 (7, .ldc 73, 2) (List.mem_of_getElem? (i := 3) rfl)
theorem dX7_mark_9 : decode cX7_mark 9 = .ok (.ireturn, 1) := bdX7_mark_0 (9, .ireturn, 1) (List.mem_of_getElem? (i := 4) rfl)
theorem dX7_mark_10 : decode cX7_mark 10 = .ok (.aload_n 0, 1) := bdX7_mark_0 (10, .aload_n 0, 1) (List.mem_of_getElem? (i := 5) rfl)
theorem dX7_mark_11 : decode cX7_mark 11 = .ok (.getfield 42, 3) := bdX7_mark_0 (11, .getfield 42, 3) (List.mem_of_getElem? (i := 6) rfl)
theorem dX7_mark_14 : decode cX7_mark 14 = .ok (.iload_n 1, 1) := bdX7_mark_0 (14, .iload_n 1, 1) (List.mem_of_getElem? (i := 7) rfl)
theorem dX7_mark_15 : decode cX7_mark 15 = .ok (.aaload, 1) := bdX7_mark_0 (15, .aaload, 1) (List.mem_of_getElem? (i := 8) rfl)
theorem dX7_mark_18 : decode cX7_mark 18 = .ok (.aload 4, 2) := bdX7_mark_0 (18, .aload 4, 2) (List.mem_of_getElem? (i := 9) rfl)
theorem dX7_mark_20 : decode cX7_mark 20 = .ok (.invokevirtual 203, 3) := bdX7_mark_0 (20, .invokevirtual 203, 3) (List.mem_of_getElem? (i := 10) rfl)
theorem dX7_mark_23 : decode cX7_mark 23 = .ok (.ifCond .eq 6, 3) := bdX7_mark_0 (23, .ifCond .eq 6, 3) (List.mem_of_getElem? (i := 11) rfl)
theorem dX7_mark_26 : decode cX7_mark 26 = .ok (.ldc 206, 2) := bdX7_mark_0 (26, .ldc 206, 2) (List.mem_of_getElem? (i := 12) rfl)
theorem dX7_mark_28 : decode cX7_mark 28 = .ok (.ireturn, 1) := bdX7_mark_0 (28, .ireturn, 1) (List.mem_of_getElem? (i := 13) rfl)
theorem dX7_mark_29 : decode cX7_mark 29 = .ok (.aload 4, 2) := bdX7_mark_0 (29, .aload 4, 2) (List.mem_of_getElem? (i := 14) rfl)
theorem dX7_mark_31 : decode cX7_mark 31 = .ok (.iload_n 2, 1) := bdX7_mark_0 (31, .iload_n 2, 1) (List.mem_of_getElem? (i := 15) rfl)
theorem dX7_mark_32 : decode cX7_mark 32 = .ok (.invokevirtual 263, 3) := bdX7_mark_0 (32, .invokevirtual 263, 3) (List.mem_of_getElem? (i := 16) rfl)
theorem dX7_mark_35 : decode cX7_mark 35 = .ok (.ifCond .ne 7, 3) := bdX7_mark_0 (35, .ifCond .ne 7, 3) (List.mem_of_getElem? (i := 17) rfl)
theorem dX7_mark_38 : decode cX7_mark 38 = .ok (.ldc_w 266, 3) := bdX7_mark_0 (38, .ldc_w 266, 3) (List.mem_of_getElem? (i := 18) rfl)
theorem dX7_mark_41 : decode cX7_mark 41 = .ok (.ireturn, 1) := bdX7_mark_0 (41, .ireturn, 1) (List.mem_of_getElem? (i := 19) rfl)
theorem dX7_mark_42 : decode cX7_mark 42 = .ok (.aload 4, 2) := bdX7_mark_0 (42, .aload 4, 2) (List.mem_of_getElem? (i := 20) rfl)
theorem dX7_mark_44 : decode cX7_mark 44 = .ok (.getfield 267, 3) := bdX7_mark_0 (44, .getfield 267, 3) (List.mem_of_getElem? (i := 21) rfl)
theorem dX7_mark_47 : decode cX7_mark 47 = .ok (.ifCond .ne 23, 3) := bdX7_mark_0 (47, .ifCond .ne 23, 3) (List.mem_of_getElem? (i := 22) rfl)
theorem dX7_mark_50 : decode cX7_mark 50 = .ok (.iload_n 3, 1) := bdX7_mark_0 (50, .iload_n 3, 1) (List.mem_of_getElem? (i := 23) rfl)
theorem dX7_mark_51 : decode cX7_mark 51 = .ok (.ldc 173, 2) := bdX7_mark_0 (51, .ldc 173, 2) (List.mem_of_getElem? (i := 24) rfl)
theorem dX7_mark_53 : decode cX7_mark 53 = .ok (.if_icmp .ne 6, 3) := bdX7_mark_0 (53, .if_icmp .ne 6, 3) (List.mem_of_getElem? (i := 25) rfl)
theorem dX7_mark_56 : decode cX7_mark 56 = .ok (.ldc 128, 2) := bdX7_mark_0 (56, .ldc 128, 2) (List.mem_of_getElem? (i := 26) rfl)
theorem dX7_mark_58 : decode cX7_mark 58 = .ok (.ireturn, 1) := bdX7_mark_0 (58, .ireturn, 1) (List.mem_of_getElem? (i := 27) rfl)
theorem dX7_mark_59 : decode cX7_mark 59 = .ok (.aload 4, 2) := bdX7_mark_0 (59, .aload 4, 2) (List.mem_of_getElem? (i := 28) rfl)
theorem dX7_mark_61 : decode cX7_mark 61 = .ok (.getfield 270, 3) := bdX7_mark_0 (61, .getfield 270, 3) (List.mem_of_getElem? (i := 29) rfl)
theorem dX7_mark_64 : decode cX7_mark 64 = .ok (.iload_n 2, 1) := bdX7_mark_0 (64, .iload_n 2, 1) (List.mem_of_getElem? (i := 30) rfl)
theorem dX7_mark_65 : decode cX7_mark 65 = .ok (.iload_n 3, 1) := bdX7_mark_0 (65, .iload_n 3, 1) (List.mem_of_getElem? (i := 31) rfl)
theorem dX7_mark_67 : decode cX7_mark 67 = .ok (.iastore, 1) := bdX7_mark_0 (67, .iastore, 1) (List.mem_of_getElem? (i := 32) rfl)
theorem dX7_mark_68 : decode cX7_mark 68 = .ok (.iconst 1, 1) := bdX7_mark_0 (68, .iconst 1, 1) (List.mem_of_getElem? (i := 33) rfl)
theorem dX7_mark_69 : decode cX7_mark 69 = .ok (.ireturn, 1) := bdX7_mark_0 (69, .ireturn, 1) (List.mem_of_getElem? (i := 34) rfl)
theorem dX7_mark_70 : decode cX7_mark 70 = .ok (.iload_n 3, 1) := bdX7_mark_0 (70, .iload_n 3, 1) (List.mem_of_getElem? (i := 35) rfl)
theorem dX7_mark_71 : decode cX7_mark 71 = .ok (.ldc 173, 2) := bdX7_mark_0 (71, .ldc 173, 2) (List.mem_of_getElem? (i := 36) rfl)
theorem dX7_mark_73 : decode cX7_mark 73 = .ok (.if_icmp .eq 20, 3) := bdX7_mark_0 (73, .if_icmp .eq 20, 3) (List.mem_of_getElem? (i := 37) rfl)
theorem dX7_mark_76 : decode cX7_mark 76 = .ok (.iload_n 3, 1) := bdX7_mark_0 (76, .iload_n 3, 1) (List.mem_of_getElem? (i := 38) rfl)
theorem dX7_mark_77 : decode cX7_mark 77 = .ok (.ldc_w 273, 3) := bdX7_mark_0 (77, .ldc_w 273, 3) (List.mem_of_getElem? (i := 39) rfl)
theorem bdX7_mark_80 : ∀ q ∈ ([(80, .if_icmp .lt 10, 3), (83, .iload_n 3, 1), (84, .ldc_w 274, 3), (87, .if_icmp .le 6, 3), (90, .ldc 73, 2), (92, .ireturn, 1), (93, .aload 4, 2), (95, .getfield 270, 3), (98, .iload_n 2, 1), (99, .iload_n 3, 1), (100, .iastore, 1), (101, .iconst 1, 1), (102, .ireturn, 1)] : List (Nat × Jvm.ClassFile.Instr × Nat)), decode cX7_mark q.1 = .ok q.2 := chk_ok _ 80 _ rfl (by decide +kernel)
theorem dX7_mark_80 : decode cX7_mark 80 = .ok (.if_icmp .lt 10, 3) := bdX7_mark_80 (80, .if_icmp .lt 10, 3) (List.mem_of_getElem? (i := 0) rfl)
theorem dX7_mark_83 : decode cX7_mark 83 = .ok (.iload_n 3, 1) := bdX7_mark_80 (83, .iload_n 3, 1) (List.mem_of_getElem? (i := 1) rfl)
theorem dX7_mark_84 : decode cX7_mark 84 = .ok (.ldc_w 274, 3) := bdX7_mark_80 (84, .ldc_w 274, 3) (List.mem_of_getElem? (i := 2) rfl)
theorem dX7_mark_87 : decode cX7_mark 87 = .ok (.if_icmp .le 6, 3) := bdX7_mark_80 (87, .if_icmp .le 6, 3) (List.mem_of_getElem? (i := 3) rfl)
theorem dX7_mark_90 : decode cX7_mark 90 = .ok (.ldc 73, 2) := bdX7_mark_80 (90, .ldc 73, 2) (List.mem_of_getElem? (i := 4) rfl)
theorem dX7_mark_92 : decode cX7_mark 92 = .ok (.ireturn, 1) := bdX7_mark_80 (92, .ireturn, 1) (List.mem_of_getElem? (i := 5) rfl)
theorem dX7_mark_93 : decode cX7_mark 93 = .ok (.aload 4, 2) := bdX7_mark_80 (93, .aload 4, 2) (List.mem_of_getElem? (i := 6) rfl)
theorem dX7_mark_95 : decode cX7_mark 95 = .ok (.getfield 270, 3) := bdX7_mark_80 (95, .getfield 270, 3) (List.mem_of_getElem? (i := 7) rfl)
theorem dX7_mark_98 : decode cX7_mark 98 = .ok (.iload_n 2, 1) := bdX7_mark_80 (98, .iload_n 2, 1) (List.mem_of_getElem? (i := 8) rfl)
theorem dX7_mark_99 : decode cX7_mark 99 = .ok (.iload_n 3, 1) := bdX7_mark_80 (99, .iload_n 3, 1) (List.mem_of_getElem? (i := 9) rfl)
theorem dX7_mark_100 : decode cX7_mark 100 = .ok (.iastore, 1) := bdX7_mark_80 (100, .iastore, 1) (List.mem_of_getElem? (i := 10) rfl)
theorem dX7_mark_101 : decode cX7_mark 101 = .ok (.iconst 1, 1) := bdX7_mark_80 (101, .iconst 1, 1) (List.mem_of_getElem? (i := 11) rfl)
theorem dX7_mark_102 : decode cX7_mark 102 = .ok (.ireturn, 1) := bdX7_mark_80 (102, .ireturn, 1) (List.mem_of_getElem? (i := 12) rfl)
theorem dX7_mark_16 : decode cX7_mark 16 = .ok (.astore 4, 2) := by decide +kernel
theorem dX7_mark_66 : decode cX7_mark 66 = .ok (.i2s, 1) := by decide +kernel
theorem fX7_270 : fldOK RX7 270 3 2 (.array .int) true := ⟨_, _, _, tyX3, ⟨rfl, iX3, by decide, rfl, by decide⟩, tw_249, ⟨tyX3_ok, nmX3⟩, by decide +kernel, rfl, rfl⟩
theorem kX7_263 : mthV RX7 263 3 yX3_hasPlace prog_5_method_5_code 2 (Option.some Jvm.ClassFile.FieldType.boolean) 1 := ⟨⟨⟨tw_854, tw_65, tw_605⟩, rfl, by decide +kernel⟩, tw_603, tw_604, rfl⟩
theorem fX7_267 : fldOK RX7 267 3 0 .int false := ⟨_, _, _, tyX3, ⟨rfl, iX3, by decide, rfl, by decide⟩, tw_244, ⟨tyX3_ok, nmX3⟩, by decide +kernel, rfl, rfl⟩
def BX7_mark_93 (ln : Nat → Nat) (post : Int32 → HC → Prop) (S : HC) (x2 : Int32) (x3 : Int32) (x4 : Nat) : Prop := dn_ (hR S x4 2) fun b1 => as_ (ln b1) x2 (fun j => sI S b1 j x3) fun S => post (1 : Int32) S
def BX7_mark_90 (ln : Nat → Nat) (post : Int32 → HC → Prop) (S : HC)  : Prop := post (-1000000001 : Int32) S
def wpX7_mark (ln : Nat → Nat) (S : HC) (a0 : Nat) (a1 : Int32) (a2 : Int32) (a3 : Int32) (post : Int32 → HC → Prop) : Prop := wpX7_isSheet ln S a1 fun z2 S => if z2 = 0 then (post (-1000000001 : Int32) S) else (dn_ (hR S a0 6) fun b3 => al_ (ln b3) a1 (hR S b3) fun o => dn_ o fun b4 => wpX3_isMissing ln S b4 fun z5 S => if z5 = 0 then (wpX3_hasPlace ln S b4 a2 fun z6 S => if z6 = 0 then (post (-1000000013 : Int32) S) else (lt_ (hI S b4 0) fun z7 => if z7 = 0 then (if a3 = (-1000000005 : Int32) then (post (-1000000012 : Int32) S) else (dn_ (hR S b4 2) fun b8 => lt_ (a3.toInt16.toInt32) fun z9 => as_ (ln b8) a2 (fun j => sI S b8 j z9) fun S => post (1 : Int32) S)) else (if a3 = (-1000000005 : Int32) then (BX7_mark_93 ln post S a2 a3 b4) else (if a3 < (-99999 : Int32) then (BX7_mark_90 ln post S) else (if a3 ≤ (99999 : Int32) then (BX7_mark_93 ln post S a2 a3 b4) else (BX7_mark_90 ln post S)))))) else (post (-1000000011 : Int32) S))
abbrev rmX7_mark : Room := { frames := 1, cells := 0, slots := 0, locals := 21 }
set_option maxHeartbeats 4000000 in
set_option maxRecDepth 100000 in
theorem ctX7_mark {l : Launch} {g : GX} {N : Nat} {ln : Nat → Nat} {S : HC} {a0 : Nat} {a1 : Int32} {a2 : Int32} {a3 : Int32} {post : Int32 → HC → Prop} (hr_a0 : a0 < N) (hk_a0 : kd a0 = 7) (h : wpX7_mark ln S a0 a1 a2 a3 post) : Met l yX7_mark (Cond.code yX7_mark prog_1_method_30_code 5 (Option.some Jvm.ClassFile.FieldType.int) :: gtbl) rmX7_mark (va_Pc [.ref (gz g + a0), .int a1, .int a2, .int a3] (AtP g N ln S)) (QI g N ln post) 0 0 (gF g) := by
  refine m_of (by decide) (Nat.le_of_ble_eq_true rfl) ?_
  intro p e s m below meth c ls F hr I hl
  have hl : lv_has ls 5 [(0, .ref (gz g + a0)), (1, .int a1), (2, .int a2), (3, .int a3)] := hl
  unfold wpX7_mark at h
  have hj_93 : ∀ (S : HC) (H : Heap) (locs : List Loc) (ls : Array Slot) (x2 : Int32) (x3 : Int32) (x4 : Nat), x4 < N → kd x4 = 3 → BX7_mark_93 ln post S x2 x3 x4 → Inv g N ln S s H locs → lv_has ls 5 [(2, .int x2), (3, .int x3), (4, .ref (gz g + x4))] → W p l e rmX7_mark s m ([.ref (gz g + a0), .int a1, .int a2, .int a3] : List Value).toArray below meth c H locs 0 0 (MQ below (QI g N ln post) ([.ref (gz g + a0), .int a1, .int a2, .int a3] : List Value).toArray s 0 0 (gF g)) (F0 m 93 ls []) := by
    intro S H locs ls x2 x3 x4 hr_x4 hk_x4 h I hl
    unfold BX7_mark_93 at h
    refine lv_aload F.1 F.2.1 dX7_mark_93 (lv_at hl 2 rfl) ?_
    refine r_getN F I hr_x4 hk_x4 fX7_270 (f := 9) rfl (by decide) dX7_mark_95 h (fun b1 hr_b1 hk_b1 h => ?_)
    refine lv_iload_n F.1 F.2.1 dX7_mark_98 rfl (lv_at hl 0 rfl) ?_
    refine lv_iload_n F.1 F.2.1 dX7_mark_99 rfl (lv_at hl 1 rfl) ?_
    refine r_ast F I hr_b1 hk_b1 dX7_mark_100 h (fun S H locs I h => ?_)
    refine lv_iconst (v := 1) F.1 F.2.1 dX7_mark_101 (by decide) ?_
    exact r_ireturn F I ⟨hr.1, hr.2.1, trivial⟩ h dX7_mark_102
  have hj_90 : ∀ (S : HC) (H : Heap) (locs : List Loc) (ls : Array Slot), BX7_mark_90 ln post S  → Inv g N ln S s H locs → lv_has ls 5 [] → W p l e rmX7_mark s m ([.ref (gz g + a0), .int a1, .int a2, .int a3] : List Value).toArray below meth c H locs 0 0 (MQ below (QI g N ln post) ([.ref (gz g + a0), .int a1, .int a2, .int a3] : List Value).toArray s 0 0 (gF g)) (F0 m 90 ls []) := by
    intro S H locs ls h I hl
    unfold BX7_mark_90 at h
    refine lv_ldc F.1 F.2.1 F.2.2.2.1 (F.2.2.2.2 _ tw_334) dX7_mark_90 ?_
    exact r_ireturn F I ⟨hr.1, hr.2.1, trivial⟩ h dX7_mark_92
  refine lv_iload_n F.1 F.2.1 dX7_mark_0 rfl (lv_at hl 1 rfl) ?_
  refine g_I I (run_S (As := [.int a1]) (rest := []) F I kX7_200 (ctX7_isSheet h) ⟨rfl, rfl⟩ ⟨Nat.le_of_ble_eq_true rfl, Nat.le_of_ble_eq_true rfl⟩ rfl hl.1 rfl (Nat.le_of_ble_eq_true rfl) ⟨Nat.le_of_ble_eq_true rfl, Nat.le_of_ble_eq_true rfl⟩ dX7_mark_1) (fun z2 S H locs I h => ?_)
  refine r_if_ne (tgt := 10) F dX7_mark_4 (by decide) h (fun h => ?_) (fun h => ?_)
  · refine lv_aload_n F.1 F.2.1 dX7_mark_10 rfl (lv_at hl 0 rfl) ?_
    refine r_getN F I hr_a0 hk_a0 fX7_42 (f := 14) rfl (by decide) dX7_mark_11 h (fun b3 hr_b3 hk_b3 h => ?_)
    refine lv_iload_n F.1 F.2.1 dX7_mark_14 rfl (lv_at hl 1 rfl) ?_
    refine r_aldN F I hr_b3 hk_b3 (by decide) (f := 3) rfl dX7_mark_15 h (fun b4 hr_b4 hk_b4 h => ?_)
    refine lv_astore (lv' := [(4, .ref (gz g + b4)), (0, .ref (gz g + a0)), (1, .int a1), (2, .int a2), (3, .int a3)]) F.1 F.2.1 dX7_mark_16 hl (by decide) rfl (fun ls hl => ?_)
    refine lv_aload F.1 F.2.1 dX7_mark_18 (lv_at hl 0 rfl) ?_
    refine g_I I (run_V (As := []) (rest := []) F I hr_b4 hk_b4 (by decide) kX7_203 (ctX3_isMissing hr_b4 hk_b4 h) ⟨rfl, rfl⟩ ⟨Nat.le_of_ble_eq_true rfl, Nat.le_of_ble_eq_true rfl⟩ rfl hl.1 rfl (Nat.le_of_ble_eq_true rfl) ⟨Nat.le_of_ble_eq_true rfl, Nat.le_of_ble_eq_true rfl⟩ dX7_mark_20) (fun z5 S H locs I h => ?_)
    refine r_if_eq (tgt := 29) F dX7_mark_23 (by decide) h (fun h => ?_) (fun h => ?_)
    · refine lv_aload F.1 F.2.1 dX7_mark_29 (lv_at hl 0 rfl) ?_
      refine lv_iload_n F.1 F.2.1 dX7_mark_31 rfl (lv_at hl 3 rfl) ?_
      refine g_I I (run_V (As := [.int a2]) (rest := []) F I hr_b4 hk_b4 (by decide) kX7_263 (ctX3_hasPlace hr_b4 hk_b4 h) ⟨rfl, rfl⟩ ⟨Nat.le_of_ble_eq_true rfl, Nat.le_of_ble_eq_true rfl⟩ rfl hl.1 rfl (Nat.le_of_ble_eq_true rfl) ⟨Nat.le_of_ble_eq_true rfl, Nat.le_of_ble_eq_true rfl⟩ dX7_mark_32) (fun z6 S H locs I h => ?_)
      refine r_if_ne (tgt := 42) F dX7_mark_35 (by decide) h (fun h => ?_) (fun h => ?_)
      · refine lv_aload F.1 F.2.1 dX7_mark_42 (lv_at hl 0 rfl) ?_
        refine r_getI F I hr_b4 hk_b4 fX7_267 rfl dX7_mark_44 h (fun z7 h => ?_)
        refine r_if_ne (tgt := 70) F dX7_mark_47 (by decide) h (fun h => ?_) (fun h => ?_)
        · refine lv_iload_n F.1 F.2.1 dX7_mark_70 rfl (lv_at hl 4 rfl) ?_
          refine lv_ldc F.1 F.2.1 F.2.2.2.1 (F.2.2.2.2 _ tw_534) dX7_mark_71 ?_
          refine r_icmp_eq (tgt := 93) F dX7_mark_73 (by decide) h (fun h => ?_) (fun h => ?_)
          · exact hj_93 S _ _ _ a2 a3 b4 hr_b4 hk_b4 h I (lv_sub hl [3, 4, 0] rfl)
          · refine lv_iload_n F.1 F.2.1 dX7_mark_76 rfl (lv_at hl 4 rfl) ?_
            refine lv_ldcw F.1 F.2.1 F.2.2.2.1 (F.2.2.2.2 _ tw_856) dX7_mark_77 ?_
            refine r_icmp_lt (tgt := 90) F dX7_mark_80 (by decide) h (fun h => ?_) (fun h => ?_)
            · exact hj_90 S _ _ _   h I (lv_sub hl [] rfl)
            · refine lv_iload_n F.1 F.2.1 dX7_mark_83 rfl (lv_at hl 4 rfl) ?_
              refine lv_ldcw F.1 F.2.1 F.2.2.2.1 (F.2.2.2.2 _ tw_857) dX7_mark_84 ?_
              refine r_icmp_le (tgt := 93) F dX7_mark_87 (by decide) h (fun h => ?_) (fun h => ?_)
              · exact hj_93 S _ _ _ a2 a3 b4 hr_b4 hk_b4 h I (lv_sub hl [3, 4, 0] rfl)
              · exact hj_90 S _ _ _   h I (lv_sub hl [] rfl)
        · refine lv_iload_n F.1 F.2.1 dX7_mark_50 rfl (lv_at hl 4 rfl) ?_
          refine lv_ldc F.1 F.2.1 F.2.2.2.1 (F.2.2.2.2 _ tw_534) dX7_mark_51 ?_
          refine r_icmp_ne (tgt := 59) F dX7_mark_53 (by decide) h (fun h => ?_) (fun h => ?_)
          · refine lv_aload F.1 F.2.1 dX7_mark_59 (lv_at hl 0 rfl) ?_
            refine r_getN F I hr_b4 hk_b4 fX7_270 (f := 9) rfl (by decide) dX7_mark_61 h (fun b8 hr_b8 hk_b8 h => ?_)
            refine lv_iload_n F.1 F.2.1 dX7_mark_64 rfl (lv_at hl 3 rfl) ?_
            refine lv_iload_n F.1 F.2.1 dX7_mark_65 rfl (lv_at hl 4 rfl) ?_
            refine r_i2s F dX7_mark_66 h (fun z9 h => ?_)
            refine r_ast F I hr_b8 hk_b8 dX7_mark_67 h (fun S H locs I h => ?_)
            refine lv_iconst (v := 1) F.1 F.2.1 dX7_mark_68 (by decide) ?_
            exact r_ireturn F I ⟨hr.1, hr.2.1, trivial⟩ h dX7_mark_69
          · refine lv_ldc F.1 F.2.1 F.2.2.2.1 (F.2.2.2.2 _ tw_438) dX7_mark_56 ?_
            exact r_ireturn F I ⟨hr.1, hr.2.1, trivial⟩ h dX7_mark_58
      · refine lv_ldcw F.1 F.2.1 F.2.2.2.1 (F.2.2.2.2 _ tw_855) dX7_mark_38 ?_
        exact r_ireturn F I ⟨hr.1, hr.2.1, trivial⟩ h dX7_mark_41
    · refine lv_ldc F.1 F.2.1 F.2.2.2.1 (F.2.2.2.2 _ tw_593) dX7_mark_26 ?_
      exact r_ireturn F I ⟨hr.1, hr.2.1, trivial⟩ h dX7_mark_28
  · refine lv_ldc F.1 F.2.1 F.2.2.2.1 (F.2.2.2.2 _ tw_334) dX7_mark_7 ?_
    exact r_ireturn F I ⟨hr.1, hr.2.1, trivial⟩ h dX7_mark_9
theorem bdX7_pour_0 : ∀ q ∈ ([(0, .iload_n 1, 1), (1, .invokestatic 200, 3), (4, .ifCond .ne 6, 3), (7, .ldc 73, 2), (9, .ireturn, 1), (10, .aload_n 0, 1), (11, .getfield 42, 3), (14, .iload_n 1, 1), (15, .aaload, 1), (16, .astore_n 2, 1), (17, .aload_n 2, 1), (18, .invokevirtual 203, 3), (21, .ifCond .eq 6, 3), (24, .ldc 206, 2), (26, .ireturn, 1), (27, .iconst 0, 1), (28, .istore_n 3, 1), (29, .iconst 0, 1), (30, .istore 4, 2), (32, .iload 4, 2), (34, .aload_n 0, 1), (35, .getfield 10, 3), (38, .getfield 174, 3), (41, .if_icmp .ge 63, 3), (44, .aload_n 2, 1), (45, .iload 4, 2), (47, .invokevirtual 275, 3), (50, .ifCond .eq 48, 3), (53, .aload_n 2, 1), (54, .getfield 270, 3), (57, .iload 4, 2), (59, .iaload, 1), (60, .iconst 0, 1), (61, .bipush 7, 2), (63, .invokestatic 278, 3), (66, .istore 5, 2), (68, .iload 5, 2), (70, .aload_n 0, 1), (71, .getfield 10, 3), (74, .getfield 101, 3)] : List (Nat × Jvm.ClassFile.Instr × Nat)), decode cX7_pour q.1 = .ok q.2 := chk_ok _ 0 _ rfl (by decide +kernel)
theorem dX7_pour_0 : decode cX7_pour 0 = .ok (.iload_n 1, 1) := bdX7_pour_0 (0, .iload_n 1, 1) (List.mem_of_getElem? (i := 0) rfl)
theorem dX7_pour_1 : decode cX7_pour 1 = .ok (.invokestatic 200, 3) := bdX7_pour_0 (1, .invokestatic 200, 3) (List.mem_of_getElem? (i := 1) rfl)
theorem dX7_pour_4 : decode cX7_pour 4 = .ok (.ifCond .ne 6, 3) := bdX7_pour_0 (4, .ifCond .ne 6, 3) (List.mem_of_getElem? (i := 2) rfl)
theorem dX7_pour_7 : decode cX7_pour 7 = .ok (.ldc 73, 2) := bdX7_pour_0 (7, .ldc 73, 2) (List.mem_of_getElem? (i := 3) rfl)
theorem dX7_pour_9 : decode cX7_pour 9 = .ok (.ireturn, 1) := bdX7_pour_0 (9, .ireturn, 1) (List.mem_of_getElem? (i := 4) rfl)
theorem dX7_pour_10 : decode cX7_pour 10 = .ok (.aload_n 0, 1) := bdX7_pour_0 (10, .aload_n 0, 1) (List.mem_of_getElem? (i := 5) rfl)
theorem dX7_pour_11 : decode cX7_pour 11 = .ok (.getfield 42, 3) := bdX7_pour_0 (11, .getfield 42, 3) (List.mem_of_getElem? (i := 6) rfl)
theorem dX7_pour_14 : decode cX7_pour 14 = .ok (.iload_n 1, 1) := bdX7_pour_0 (14, .iload_n 1, 1) (List.mem_of_getElem? (i := 7) rfl)
theorem dX7_pour_15 : decode cX7_pour 15 = .ok (.aaload, 1) := bdX7_pour_0 (15, .aaload, 1) (List.mem_of_getElem? (i := 8) rfl)
theorem dX7_pour_16 : decode cX7_pour 16 = .ok (.astore_n 2, 1) := bdX7_pour_0 (16, .astore_n 2, 1) (List.mem_of_getElem? (i := 9) rfl)
theorem dX7_pour_17 : decode cX7_pour 17 = .ok (.aload_n 2, 1) := bdX7_pour_0 (17, .aload_n 2, 1) (List.mem_of_getElem? (i := 10) rfl)
theorem dX7_pour_18 : decode cX7_pour 18 = .ok (.invokevirtual 203, 3) := bdX7_pour_0 (18, .invokevirtual 203, 3) (List.mem_of_getElem? (i := 11) rfl)
theorem dX7_pour_21 : decode cX7_pour 21 = .ok (.ifCond .eq 6, 3) := bdX7_pour_0 (21, .ifCond .eq 6, 3) (List.mem_of_getElem? (i := 12) rfl)
theorem dX7_pour_24 : decode cX7_pour 24 = .ok (.ldc 206, 2) := bdX7_pour_0 (24, .ldc 206, 2) (List.mem_of_getElem? (i := 13) rfl)
theorem dX7_pour_26 : decode cX7_pour 26 = .ok (.ireturn, 1) := bdX7_pour_0 (26, .ireturn, 1) (List.mem_of_getElem? (i := 14) rfl)
theorem dX7_pour_27 : decode cX7_pour 27 = .ok (.iconst 0, 1) := bdX7_pour_0 (27, .iconst 0, 1) (List.mem_of_getElem? (i := 15) rfl)
theorem dX7_pour_28 : decode cX7_pour 28 = .ok (.istore_n 3, 1) := bdX7_pour_0 (28, .istore_n 3, 1) (List.mem_of_getElem? (i := 16) rfl)
theorem dX7_pour_29 : decode cX7_pour 29 = .ok (.iconst 0, 1) := bdX7_pour_0 (29, .iconst 0, 1) (List.mem_of_getElem? (i := 17) rfl)
theorem dX7_pour_30 : decode cX7_pour 30 = .ok (.istore 4, 2) := bdX7_pour_0 (30, .istore 4, 2) (List.mem_of_getElem? (i := 18) rfl)
theorem dX7_pour_32 : decode cX7_pour 32 = .ok (.iload 4, 2) := bdX7_pour_0 (32, .iload 4, 2) (List.mem_of_getElem? (i := 19) rfl)
theorem dX7_pour_34 : decode cX7_pour 34 = .ok (.aload_n 0, 1) := bdX7_pour_0 (34, .aload_n 0, 1) (List.mem_of_getElem? (i := 20) rfl)
theorem dX7_pour_35 : decode cX7_pour 35 = .ok (.getfield 10, 3) := bdX7_pour_0 (35, .getfield 10, 3) (List.mem_of_getElem? (i := 21) rfl)
theorem dX7_pour_38 : decode cX7_pour 38 = .ok (.getfield 174, 3) := bdX7_pour_0 (38, .getfield 174, 3) (List.mem_of_getElem? (i := 22) rfl)
theorem dX7_pour_41 : decode cX7_pour 41 = .ok (.if_icmp .ge 63, 3) := bdX7_pour_0 (41, .if_icmp .ge 63, 3) (List.mem_of_getElem? (i := 23) rfl)
theorem dX7_pour_44 : decode cX7_pour 44 = .ok (.aload_n 2, 1) := bdX7_pour_0 (44, .aload_n 2, 1) (List.mem_of_getElem? (i := 24) rfl)
theorem dX7_pour_45 : decode cX7_pour 45 = .ok (.iload 4, 2) := bdX7_pour_0 (45, .iload 4, 2) (List.mem_of_getElem? (i := 25) rfl)
theorem dX7_pour_47 : decode cX7_pour 47 = .ok (.invokevirtual 275, 3) := bdX7_pour_0 (47, .invokevirtual 275, 3) (List.mem_of_getElem? (i := 26) rfl)
theorem dX7_pour_50 : decode cX7_pour 50 = .ok (.ifCond .eq 48, 3) := bdX7_pour_0 (50, .ifCond .eq 48, 3) (List.mem_of_getElem? (i := 27) rfl)
theorem dX7_pour_53 : decode cX7_pour 53 = .ok (.aload_n 2, 1) := bdX7_pour_0 (53, .aload_n 2, 1) (List.mem_of_getElem? (i := 28) rfl)
theorem dX7_pour_54 : decode cX7_pour 54 = .ok (.getfield 270, 3) := bdX7_pour_0 (54, .getfield 270, 3) (List.mem_of_getElem? (i := 29) rfl)
theorem dX7_pour_57 : decode cX7_pour 57 = .ok (.iload 4, 2) := bdX7_pour_0 (57, .iload 4, 2) (List.mem_of_getElem? (i := 30) rfl)
theorem dX7_pour_59 : decode cX7_pour 59 = .ok (.iaload, 1) := bdX7_pour_0 (59, .iaload, 1) (List.mem_of_getElem? (i := 31) rfl)
theorem dX7_pour_60 : decode cX7_pour 60 = .ok (.iconst 0, 1) := bdX7_pour_0 (60, .iconst 0, 1) (List.mem_of_getElem? (i := 32) rfl)
theorem dX7_pour_61 : decode cX7_pour 61 = .ok (.bipush 7, 2) := bdX7_pour_0 (61, .bipush 7, 2) (List.mem_of_getElem? (i := 33) rfl)
theorem dX7_pour_63 : decode cX7_pour 63 = .ok (.invokestatic 278, 3) := bdX7_pour_0 (63, .invokestatic 278, 3) (List.mem_of_getElem? (i := 34) rfl)
theorem dX7_pour_66 : decode cX7_pour 66 = .ok (.istore 5, 2) := bdX7_pour_0 (66, .istore 5, 2) (List.mem_of_getElem? (i := 35) rfl)
theorem dX7_pour_68 : decode cX7_pour 68 = .ok (.iload 5, 2) := bdX7_pour_0 (68, .iload 5, 2) (List.mem_of_getElem? (i := 36) rfl)
theorem dX7_pour_70 : decode cX7_pour 70 = .ok (.aload_n 0, 1) := bdX7_pour_0 (70, .aload_n 0, 1) (List.mem_of_getElem? (i := 37) rfl)
theorem dX7_pour_71 : decode cX7_pour 71 = .ok (.getfield 10, 3) := bdX7_pour_0 (71, .getfield 10, 3) (List.mem_of_getElem? (i := 38) rfl)
theorem dX7_pour_74 : decode cX7_pour 74 = .ok (.getfield 101, 3) := bdX7_pour_0 (74, .getfield 101, 3) (List.mem_of_getElem? (i := 39) rfl)
theorem bdX7_pour_77 : ∀ q ∈ ([(77, .iload 4, 2), (79, .iaload, 1), (80, .if_icmp .eq 18, 3), (83, .aload_n 0, 1), (84, .getfield 10, 3), (87, .getfield 101, 3), (90, .iload 4, 2), (92, .iload 5, 2), (94, .iastore, 1), (95, .iinc 3 1, 3), (98, .iinc 4 1, 3), (101, .goto (-69), 3), (104, .iload_n 3, 1), (105, .ireturn, 1)] : List (Nat × Jvm.ClassFile.Instr × Nat)), decode cX7_pour q.1 = .ok q.2 := chk_ok _ 77 _ rfl (by decide +kernel)
theorem dX7_pour_77 : decode cX7_pour 77 = .ok (.iload 4, 2) := bdX7_pour_77 (77, .iload 4, 2) (List.mem_of_getElem? (i := 0) rfl)
theorem dX7_pour_79 : decode cX7_pour 79 = .ok (.iaload, 1) := bdX7_pour_77 (79, .iaload, 1) (List.mem_of_getElem? (i := 1) rfl)
theorem dX7_pour_80 : decode cX7_pour 80 = .ok (.if_icmp .eq 18, 3) := bdX7_pour_77 (80, .if_icmp .eq 18, 3) (List.mem_of_getElem? (i := 2) rfl)
theorem dX7_pour_83 : decode cX7_pour 83 = .ok (.aload_n 0, 1) := bdX7_pour_77 (83, .aload_n 0, 1) (List.mem_of_getElem? (i := 3) rfl)
theorem dX7_pour_84 : decode cX7_pour 84 = .ok (.getfield 10, 3) := bdX7_pour_77 (84, .getfield 10, 3) (List.mem_of_getElem? (i := 4) rfl)
theorem dX7_pour_87 : decode cX7_pour 87 = .ok (.getfield 101, 3) := bdX7_pour_77 (87, .getfield 101, 3) (List.mem_of_getElem? (i := 5) rfl)
theorem dX7_pour_90 : decode cX7_pour 90 = .ok (.iload 4, 2) := bdX7_pour_77 (90, .iload 4, 2) (List.mem_of_getElem? (i := 6) rfl)
theorem dX7_pour_92 : decode cX7_pour 92 = .ok (.iload 5, 2) := bdX7_pour_77 (92, .iload 5, 2) (List.mem_of_getElem? (i := 7) rfl)
theorem dX7_pour_94 : decode cX7_pour 94 = .ok (.iastore, 1) := bdX7_pour_77 (94, .iastore, 1) (List.mem_of_getElem? (i := 8) rfl)
theorem dX7_pour_95 : decode cX7_pour 95 = .ok (.iinc 3 1, 3) := bdX7_pour_77 (95, .iinc 3 1, 3) (List.mem_of_getElem? (i := 9) rfl)
theorem dX7_pour_98 : decode cX7_pour 98 = .ok (.iinc 4 1, 3) := bdX7_pour_77 (98, .iinc 4 1, 3) (List.mem_of_getElem? (i := 10) rfl)
theorem dX7_pour_101 : decode cX7_pour 101 = .ok (.goto (-69), 3) := bdX7_pour_77 (101, .goto (-69), 3) (List.mem_of_getElem? (i := 11) rfl)
theorem dX7_pour_104 : decode cX7_pour 104 = .ok (.iload_n 3, 1) := bdX7_pour_77 (104, .iload_n 3, 1) (List.mem_of_getElem? (i := 12) rfl)
theorem dX7_pour_105 : decode cX7_pour 105 = .ok (.ireturn, 1) := bdX7_pour_77 (105, .ireturn, 1) (List.mem_of_getElem? (i := 13) rfl)
theorem kX7_275 : mthV RX7 275 3 yX3_isNumber prog_5_method_7_code 2 (Option.some Jvm.ClassFile.FieldType.boolean) 1 := ⟨⟨⟨tw_862, tw_65, tw_601⟩, rfl, by decide +kernel⟩, tw_599, tw_600, rfl⟩
theorem kX7_278 : mthS RX7 278 yX7_within prog_1_method_51_code 3 (Option.some Jvm.ClassFile.FieldType.int) 3 := ⟨⟨⟨tw_863, tw_60, tw_415⟩, rfl, by decide +kernel⟩, tw_414⟩
def BX7_pour_98 (ln : Nat → Nat) (post : Int32 → HC → Prop) (K32 : HC → Nat → Nat → Int32 → Int32 → Prop) (S : HC) (x0 : Nat) (x2 : Nat) (x3 : Int32) (x4 : Int32) : Prop := lt_ (x4 + (1 : Int32)) fun z1 => K32 S x0 x2 x3 z1
def LX7_pour_32 (ln : Nat → Nat) (post : Int32 → HC → Prop) : Nat → HC → Nat → Nat → Int32 → Int32 → Prop
  | 0 => fun _ _ _ _ _ => False
  | n32 + 1 => fun S x0 x2 x3 x4 => dn_ (hR S x0 0) fun b2 => lt_ (hI S b2 6) fun z3 => if z3 ≤ x4 then (post x3 S) else (wpX3_isNumber ln S x2 x4 fun z4 S => if z4 = 0 then (BX7_pour_98 ln post (LX7_pour_32 ln post n32) S x0 x2 x3 x4) else (dn_ (hR S x2 2) fun b5 => al_ (ln b5) x4 (hI S b5) fun z6 => wpX7_within ln S z6 (0 : Int32) (7 : Int32) fun z7 S => dn_ (hR S x0 0) fun b8 => dn_ (hR S b8 4) fun b9 => al_ (ln b9) x4 (hI S b9) fun z10 => if z7 = z10 then (BX7_pour_98 ln post (LX7_pour_32 ln post n32) S x0 x2 x3 x4) else (dn_ (hR S x0 0) fun b11 => dn_ (hR S b11 4) fun b12 => as_ (ln b12) x4 (fun j => sI S b12 j z7) fun S => lt_ (x3 + (1 : Int32)) fun z13 => BX7_pour_98 ln post (LX7_pour_32 ln post n32) S x0 x2 z13 x4)))
def wpX7_pour (ln : Nat → Nat) (S : HC) (a0 : Nat) (a1 : Int32) (post : Int32 → HC → Prop) : Prop := wpX7_isSheet ln S a1 fun z14 S => if z14 = 0 then (post (-1000000001 : Int32) S) else (dn_ (hR S a0 6) fun b15 => al_ (ln b15) a1 (hR S b15) fun o => dn_ o fun b16 => wpX3_isMissing ln S b16 fun z17 S => if z17 = 0 then (∃ n32, LX7_pour_32 ln post n32 S a0 b16 (0 : Int32) (0 : Int32)) else (post (-1000000011 : Int32) S))
abbrev rmX7_pour : Room := { frames := 2, cells := 0, slots := 0, locals := 43 }
set_option maxHeartbeats 4000000 in
set_option maxRecDepth 100000 in
theorem ctX7_pour {l : Launch} {g : GX} {N : Nat} {ln : Nat → Nat} {S : HC} {a0 : Nat} {a1 : Int32} {post : Int32 → HC → Prop} (hr_a0 : a0 < N) (hk_a0 : kd a0 = 7) (h : wpX7_pour ln S a0 a1 post) : Met l yX7_pour (Cond.code yX7_pour prog_1_method_31_code 6 (Option.some Jvm.ClassFile.FieldType.int) :: gtbl) rmX7_pour (va_Pc [.ref (gz g + a0), .int a1] (AtP g N ln S)) (QI g N ln post) 0 0 (gF g) := by
  refine m_of (by decide) (Nat.le_of_ble_eq_true rfl) ?_
  intro p e s m below meth c ls F hr I hl
  have hl : lv_has ls 6 [(0, .ref (gz g + a0)), (1, .int a1)] := hl
  unfold wpX7_pour at h
  have hl_32 : ∀ n32 : Nat, ∀ (S : HC) (H : Heap) (locs : List Loc) (ls : Array Slot) (x0 : Nat) (x2 : Nat) (x3 : Int32) (x4 : Int32), x0 < N → kd x0 = 7 → x2 < N → kd x2 = 3 → LX7_pour_32 ln post n32 S x0 x2 x3 x4 → Inv g N ln S s H locs → lv_has ls 6 [(0, .ref (gz g + x0)), (2, .ref (gz g + x2)), (3, .int x3), (4, .int x4)] → W p l e rmX7_pour s m ([.ref (gz g + a0), .int a1] : List Value).toArray below meth c H locs 0 0 (MQ below (QI g N ln post) ([.ref (gz g + a0), .int a1] : List Value).toArray s 0 0 (gF g)) (F0 m 32 ls []) := by
    intro n32
    induction n32 with
    | zero =>
      intro S H locs ls x0 x2 x3 x4 hr_x0 hk_x0 hr_x2 hk_x2 h I hl
      exact h.elim
    | succ n32 ih =>
      have hk32 := ih
      have hj_98 : ∀ (S : HC) (H : Heap) (locs : List Loc) (ls : Array Slot) (x0 : Nat) (x2 : Nat) (x3 : Int32) (x4 : Int32), x0 < N → kd x0 = 7 → x2 < N → kd x2 = 3 → BX7_pour_98 ln post (LX7_pour_32 ln post n32) S x0 x2 x3 x4 → Inv g N ln S s H locs → lv_has ls 6 [(0, .ref (gz g + x0)), (2, .ref (gz g + x2)), (3, .int x3), (4, .int x4)] → W p l e rmX7_pour s m ([.ref (gz g + a0), .int a1] : List Value).toArray below meth c H locs 0 0 (MQ below (QI g N ln post) ([.ref (gz g + a0), .int a1] : List Value).toArray s 0 0 (gF g)) (F0 m 98 ls []) := by
        intro S H locs ls x0 x2 x3 x4 hr_x0 hk_x0 hr_x2 hk_x2 h I hl
        unfold BX7_pour_98 at h
        obtain ⟨z1, e_z1, h⟩ := lt_x h
        refine lv_iinc (v := z1) (lv' := [(4, .int z1), (0, .ref (gz g + x0)), (2, .ref (gz g + x2)), (3, .int x3)]) F.1 F.2.1 dX7_pour_98 hl (k := 3) rfl (by rw [e_z1]; rfl) (by decide) rfl (fun ls hl => ?_)
        refine lv_goto (tgt := 32) F.1 F.2.1 dX7_pour_101 (by decide) ?_
        exact hk32 S _ _ _ x0 x2 x3 z1 hr_x0 hk_x0 hr_x2 hk_x2 h I (lv_sub hl [1, 2, 3, 0] rfl)
      intro S H locs ls x0 x2 x3 x4 hr_x0 hk_x0 hr_x2 hk_x2 h I hl
      rw [LX7_pour_32] at h
      refine lv_iload F.1 F.2.1 dX7_pour_32 (lv_at hl 3 rfl) ?_
      refine lv_aload_n F.1 F.2.1 dX7_pour_34 rfl (lv_at hl 0 rfl) ?_
      refine r_getN F I hr_x0 hk_x0 fX7_10 (f := 0) rfl (by decide) dX7_pour_35 h (fun b2 hr_b2 hk_b2 h => ?_)
      refine r_getI F I hr_b2 hk_b2 fX7_174 rfl dX7_pour_38 h (fun z3 h => ?_)
      refine r_icmp_ge (tgt := 104) F dX7_pour_41 (by decide) h (fun h => ?_) (fun h => ?_)
      · refine lv_iload_n F.1 F.2.1 dX7_pour_104 rfl (lv_at hl 2 rfl) ?_
        exact r_ireturn F I ⟨hr.1, hr.2.1, trivial⟩ h dX7_pour_105
      · refine lv_aload_n F.1 F.2.1 dX7_pour_44 rfl (lv_at hl 1 rfl) ?_
        refine lv_iload F.1 F.2.1 dX7_pour_45 (lv_at hl 3 rfl) ?_
        refine g_I I (run_V (As := [.int x4]) (rest := []) F I hr_x2 hk_x2 (by decide) kX7_275 (ctX3_isNumber hr_x2 hk_x2 h) ⟨rfl, rfl⟩ ⟨Nat.le_of_ble_eq_true rfl, Nat.le_of_ble_eq_true rfl⟩ rfl hl.1 rfl (Nat.le_of_ble_eq_true rfl) ⟨Nat.le_of_ble_eq_true rfl, Nat.le_of_ble_eq_true rfl⟩ dX7_pour_47) (fun z4 S H locs I h => ?_)
        refine r_if_eq (tgt := 98) F dX7_pour_50 (by decide) h (fun h => ?_) (fun h => ?_)
        · exact hj_98 S _ _ _ x0 x2 x3 x4 hr_x0 hk_x0 hr_x2 hk_x2 h I (lv_sub hl [0, 1, 2, 3] rfl)
        · refine lv_aload_n F.1 F.2.1 dX7_pour_53 rfl (lv_at hl 1 rfl) ?_
          refine r_getN F I hr_x2 hk_x2 fX7_270 (f := 9) rfl (by decide) dX7_pour_54 h (fun b5 hr_b5 hk_b5 h => ?_)
          refine lv_iload F.1 F.2.1 dX7_pour_57 (lv_at hl 3 rfl) ?_
          refine r_ald F I hr_b5 hk_b5 dX7_pour_59 h (fun z6 h => ?_)
          refine lv_iconst (v := 0) F.1 F.2.1 dX7_pour_60 (by decide) ?_
          refine lv_bipush (v := 7) F.1 F.2.1 dX7_pour_61 (by decide) ?_
          refine g_I I (run_S (As := [.int z6, .int (0 : Int32), .int (7 : Int32)]) (rest := []) F I kX7_278 (ctX7_within h) ⟨rfl, rfl⟩ ⟨Nat.le_of_ble_eq_true rfl, Nat.le_of_ble_eq_true rfl⟩ rfl hl.1 rfl (Nat.le_of_ble_eq_true rfl) ⟨Nat.le_of_ble_eq_true rfl, Nat.le_of_ble_eq_true rfl⟩ dX7_pour_63) (fun z7 S H locs I h => ?_)
          refine lv_istore (lv' := [(5, .int z7), (0, .ref (gz g + x0)), (2, .ref (gz g + x2)), (3, .int x3), (4, .int x4)]) F.1 F.2.1 dX7_pour_66 hl (by decide) rfl (fun ls hl => ?_)
          refine lv_iload F.1 F.2.1 dX7_pour_68 (lv_at hl 0 rfl) ?_
          refine lv_aload_n F.1 F.2.1 dX7_pour_70 rfl (lv_at hl 1 rfl) ?_
          refine r_getN F I hr_x0 hk_x0 fX7_10 (f := 0) rfl (by decide) dX7_pour_71 h (fun b8 hr_b8 hk_b8 h => ?_)
          refine r_getN F I hr_b8 hk_b8 fX7_101 (f := 9) rfl (by decide) dX7_pour_74 h (fun b9 hr_b9 hk_b9 h => ?_)
          refine lv_iload F.1 F.2.1 dX7_pour_77 (lv_at hl 4 rfl) ?_
          refine r_ald F I hr_b9 hk_b9 dX7_pour_79 h (fun z10 h => ?_)
          refine r_icmp_eq (tgt := 98) F dX7_pour_80 (by decide) h (fun h => ?_) (fun h => ?_)
          · exact hj_98 S _ _ _ x0 x2 x3 x4 hr_x0 hk_x0 hr_x2 hk_x2 h I (lv_sub hl [1, 2, 3, 4] rfl)
          · refine lv_aload_n F.1 F.2.1 dX7_pour_83 rfl (lv_at hl 1 rfl) ?_
            refine r_getN F I hr_x0 hk_x0 fX7_10 (f := 0) rfl (by decide) dX7_pour_84 h (fun b11 hr_b11 hk_b11 h => ?_)
            refine r_getN F I hr_b11 hk_b11 fX7_101 (f := 9) rfl (by decide) dX7_pour_87 h (fun b12 hr_b12 hk_b12 h => ?_)
            refine lv_iload F.1 F.2.1 dX7_pour_90 (lv_at hl 4 rfl) ?_
            refine lv_iload F.1 F.2.1 dX7_pour_92 (lv_at hl 0 rfl) ?_
            refine r_ast F I hr_b12 hk_b12 dX7_pour_94 h (fun S H locs I h => ?_)
            obtain ⟨z13, e_z13, h⟩ := lt_x h
            refine lv_iinc (v := z13) (lv' := [(3, .int z13), (5, .int z7), (0, .ref (gz g + x0)), (2, .ref (gz g + x2)), (4, .int x4)]) F.1 F.2.1 dX7_pour_95 hl (k := 3) rfl (by rw [e_z13]; rfl) (by decide) rfl (fun ls hl => ?_)
            exact hj_98 S _ _ _ x0 x2 z13 x4 hr_x0 hk_x0 hr_x2 hk_x2 h I (lv_sub hl [2, 3, 0, 4] rfl)
  refine lv_iload_n F.1 F.2.1 dX7_pour_0 rfl (lv_at hl 1 rfl) ?_
  refine g_I I (run_S (As := [.int a1]) (rest := []) F I kX7_200 (ctX7_isSheet h) ⟨rfl, rfl⟩ ⟨Nat.le_of_ble_eq_true rfl, Nat.le_of_ble_eq_true rfl⟩ rfl hl.1 rfl (Nat.le_of_ble_eq_true rfl) ⟨Nat.le_of_ble_eq_true rfl, Nat.le_of_ble_eq_true rfl⟩ dX7_pour_1) (fun z14 S H locs I h => ?_)
  refine r_if_ne (tgt := 10) F dX7_pour_4 (by decide) h (fun h => ?_) (fun h => ?_)
  · refine lv_aload_n F.1 F.2.1 dX7_pour_10 rfl (lv_at hl 0 rfl) ?_
    refine r_getN F I hr_a0 hk_a0 fX7_42 (f := 14) rfl (by decide) dX7_pour_11 h (fun b15 hr_b15 hk_b15 h => ?_)
    refine lv_iload_n F.1 F.2.1 dX7_pour_14 rfl (lv_at hl 1 rfl) ?_
    refine r_aldN F I hr_b15 hk_b15 (by decide) (f := 3) rfl dX7_pour_15 h (fun b16 hr_b16 hk_b16 h => ?_)
    refine lv_astore_n (lv' := [(2, .ref (gz g + b16)), (0, .ref (gz g + a0)), (1, .int a1)]) F.1 F.2.1 dX7_pour_16 rfl hl (by decide) rfl (fun ls hl => ?_)
    refine lv_aload_n F.1 F.2.1 dX7_pour_17 rfl (lv_at hl 0 rfl) ?_
    refine g_I I (run_V (As := []) (rest := []) F I hr_b16 hk_b16 (by decide) kX7_203 (ctX3_isMissing hr_b16 hk_b16 h) ⟨rfl, rfl⟩ ⟨Nat.le_of_ble_eq_true rfl, Nat.le_of_ble_eq_true rfl⟩ rfl hl.1 rfl (Nat.le_of_ble_eq_true rfl) ⟨Nat.le_of_ble_eq_true rfl, Nat.le_of_ble_eq_true rfl⟩ dX7_pour_18) (fun z17 S H locs I h => ?_)
    refine r_if_eq (tgt := 27) F dX7_pour_21 (by decide) h (fun h => ?_) (fun h => ?_)
    · refine lv_iconst (v := 0) F.1 F.2.1 dX7_pour_27 (by decide) ?_
      refine lv_istore_n (lv' := [(3, .int (0 : Int32)), (2, .ref (gz g + b16)), (0, .ref (gz g + a0)), (1, .int a1)]) F.1 F.2.1 dX7_pour_28 rfl hl (by decide) rfl (fun ls hl => ?_)
      refine lv_iconst (v := 0) F.1 F.2.1 dX7_pour_29 (by decide) ?_
      refine lv_istore (lv' := [(4, .int (0 : Int32)), (3, .int (0 : Int32)), (2, .ref (gz g + b16)), (0, .ref (gz g + a0)), (1, .int a1)]) F.1 F.2.1 dX7_pour_30 hl (by decide) rfl (fun ls hl => ?_)
      obtain ⟨n32, h⟩ := h
      exact hl_32 n32 S _ _ _ a0 b16 (0 : Int32) (0 : Int32) hr_a0 hk_a0 hr_b16 hk_b16 h I (lv_sub hl [3, 2, 1, 0] rfl)
    · refine lv_ldc F.1 F.2.1 F.2.2.2.1 (F.2.2.2.2 _ tw_593) dX7_pour_24 ?_
      exact r_ireturn F I ⟨hr.1, hr.2.1, trivial⟩ h dX7_pour_26
  · refine lv_ldc F.1 F.2.1 F.2.2.2.1 (F.2.2.2.2 _ tw_334) dX7_pour_7 ?_
    exact r_ireturn F I ⟨hr.1, hr.2.1, trivial⟩ h dX7_pour_9
theorem bdX7_reads_0 : ∀ q ∈ ([(0, .iload_n 1, 1), (1, .invokestatic 200, 3), (4, .ifCond .ne 6, 3), (7, .ldc 73, 2), (9, .ireturn, 1), (10, .aload_n 0, 1), (11, .getfield 42, 3), (14, .iload_n 1, 1), (15, .aaload, 1), (16, .astore_n 2, 1), (17, .aload_n 2, 1), (18, .invokevirtual 203, 3), (21, .ifCond .eq 6, 3), (24, .ldc 206, 2), (26, .ireturn, 1), (27, .iconst 0, 1), (28, .istore_n 3, 1), (29, .iload_n 3, 1), (30, .aload_n 2, 1), (31, .getfield 281, 3), (34, .if_icmp .ge 48, 3), (37, .aload_n 2, 1), (38, .iload_n 3, 1), (39, .invokevirtual 275, 3), (42, .ifCond .eq 34, 3), (45, .aload_n 0, 1), (46, .getfield 10, 3), (49, .iload_n 3, 1), (50, .invokevirtual 86, 3), (53, .ifCond .eq 21, 3), (56, .aload_n 2, 1), (57, .getfield 270, 3), (60, .iload_n 3, 1), (61, .iaload, 1), (62, .aload_n 0, 1), (63, .getfield 10, 3), (66, .getfield 101, 3), (69, .iload_n 3, 1), (70, .iaload, 1), (71, .if_icmp .eq 5, 3)] : List (Nat × Jvm.ClassFile.Instr × Nat)), decode cX7_reads q.1 = .ok q.2 := chk_ok _ 0 _ rfl (by decide +kernel)
theorem dX7_reads_0 : decode cX7_reads 0 = .ok (.iload_n 1, 1) := bdX7_reads_0 (0, .iload_n 1, 1) (List.mem_of_getElem? (i := 0) rfl)
theorem dX7_reads_1 : decode cX7_reads 1 = .ok (.invokestatic 200, 3) := bdX7_reads_0 (1, .invokestatic 200, 3) (List.mem_of_getElem? (i := 1) rfl)
theorem dX7_reads_4 : decode cX7_reads 4 = .ok (.ifCond .ne 6, 3) := bdX7_reads_0 (4, .ifCond .ne 6, 3) (List.mem_of_getElem? (i := 2) rfl)
theorem dX7_reads_7 : decode cX7_reads 7 = .ok (.ldc 73, 2) := bdX7_reads_0 (7, .ldc 73, 2) (List.mem_of_getElem? (i := 3) rfl)
theorem dX7_reads_9 : decode cX7_reads 9 = .ok (.ireturn, 1) := bdX7_reads_0 (9, .ireturn, 1) (List.mem_of_getElem? (i := 4) rfl)
theorem dX7_reads_10 : decode cX7_reads 10 = .ok (.aload_n 0, 1) := bdX7_reads_0 (10, .aload_n 0, 1) (List.mem_of_getElem? (i := 5) rfl)
theorem dX7_reads_11 : decode cX7_reads 11 = .ok (.getfield 42, 3) := bdX7_reads_0 (11, .getfield 42, 3) (List.mem_of_getElem? (i := 6) rfl)
theorem dX7_reads_14 : decode cX7_reads 14 = .ok (.iload_n 1, 1) := bdX7_reads_0 (14, .iload_n 1, 1) (List.mem_of_getElem? (i := 7) rfl)
theorem dX7_reads_15 : decode cX7_reads 15 = .ok (.aaload, 1) := bdX7_reads_0 (15, .aaload, 1) (List.mem_of_getElem? (i := 8) rfl)
theorem dX7_reads_16 : decode cX7_reads 16 = .ok (.astore_n 2, 1) := bdX7_reads_0 (16, .astore_n 2, 1) (List.mem_of_getElem? (i := 9) rfl)
theorem dX7_reads_17 : decode cX7_reads 17 = .ok (.aload_n 2, 1) := bdX7_reads_0 (17, .aload_n 2, 1) (List.mem_of_getElem? (i := 10) rfl)
theorem dX7_reads_18 : decode cX7_reads 18 = .ok (.invokevirtual 203, 3) := bdX7_reads_0 (18, .invokevirtual 203, 3) (List.mem_of_getElem? (i := 11) rfl)
theorem dX7_reads_21 : decode cX7_reads 21 = .ok (.ifCond .eq 6, 3) := bdX7_reads_0 (21, .ifCond .eq 6, 3) (List.mem_of_getElem? (i := 12) rfl)
theorem dX7_reads_24 : decode cX7_reads 24 = .ok (.ldc 206, 2) := bdX7_reads_0 (24, .ldc 206, 2) (List.mem_of_getElem? (i := 13) rfl)
theorem dX7_reads_26 : decode cX7_reads 26 = .ok (.ireturn, 1) := bdX7_reads_0 (26, .ireturn, 1) (List.mem_of_getElem? (i := 14) rfl)
theorem dX7_reads_27 : decode cX7_reads 27 = .ok (.iconst 0, 1) := bdX7_reads_0 (27, .iconst 0, 1) (List.mem_of_getElem? (i := 15) rfl)
theorem dX7_reads_28 : decode cX7_reads 28 = .ok (.istore_n 3, 1) := bdX7_reads_0 (28, .istore_n 3, 1) (List.mem_of_getElem? (i := 16) rfl)
theorem dX7_reads_29 : decode cX7_reads 29 = .ok (.iload_n 3, 1) := bdX7_reads_0 (29, .iload_n 3, 1) (List.mem_of_getElem? (i := 17) rfl)
theorem dX7_reads_30 : decode cX7_reads 30 = .ok (.aload_n 2, 1) := bdX7_reads_0 (30, .aload_n 2, 1) (List.mem_of_getElem? (i := 18) rfl)
theorem dX7_reads_31 : decode cX7_reads 31 = .ok (.getfield 281, 3) := bdX7_reads_0 (31, .getfield 281, 3) (List.mem_of_getElem? (i := 19) rfl)
theorem dX7_reads_34 : decode cX7_reads 34 = .ok (.if_icmp .ge 48, 3) := bdX7_reads_0 (34, .if_icmp .ge 48, 3) (List.mem_of_getElem? (i := 20) rfl)
theorem dX7_reads_37 : decode cX7_reads 37 = .ok (.aload_n 2, 1) := bdX7_reads_0 (37, .aload_n 2, 1) (List.mem_of_getElem? (i := 21) rfl)
theorem dX7_reads_38 : decode cX7_reads 38 = .ok (.iload_n 3, 1) := bdX7_reads_0 (38, .iload_n 3, 1) (List.mem_of_getElem? (i := 22) rfl)
theorem dX7_reads_39 : decode cX7_reads 39 = .ok (.invokevirtual 275, 3) := bdX7_reads_0 (39, .invokevirtual 275, 3) (List.mem_of_getElem? (i := 23) rfl)
theorem dX7_reads_42 : decode cX7_reads 42 = .ok (.ifCond .eq 34, 3) := bdX7_reads_0 (42, .ifCond .eq 34, 3) (List.mem_of_getElem? (i := 24) rfl)
theorem dX7_reads_45 : decode cX7_reads 45 = .ok (.aload_n 0, 1) := bdX7_reads_0 (45, .aload_n 0, 1) (List.mem_of_getElem? (i := 25) rfl)
theorem dX7_reads_46 : decode cX7_reads 46 = .ok (.getfield 10, 3) := bdX7_reads_0 (46, .getfield 10, 3) (List.mem_of_getElem? (i := 26) rfl)
theorem dX7_reads_49 : decode cX7_reads 49 = .ok (.iload_n 3, 1) := bdX7_reads_0 (49, .iload_n 3, 1) (List.mem_of_getElem? (i := 27) rfl)
theorem dX7_reads_50 : decode cX7_reads 50 = .ok (.invokevirtual 86, 3) := bdX7_reads_0 (50, .invokevirtual 86, 3) (List.mem_of_getElem? (i := 28) rfl)
theorem dX7_reads_53 : decode cX7_reads 53 = .ok (.ifCond .eq 21, 3) := bdX7_reads_0 (53, .ifCond .eq 21, 3) (List.mem_of_getElem? (i := 29) rfl)
theorem dX7_reads_56 : decode cX7_reads 56 = .ok (.aload_n 2, 1) := bdX7_reads_0 (56, .aload_n 2, 1) (List.mem_of_getElem? (i := 30) rfl)
theorem dX7_reads_57 : decode cX7_reads 57 = .ok (.getfield 270, 3) := bdX7_reads_0 (57, .getfield 270, 3) (List.mem_of_getElem? (i := 31) rfl)
theorem dX7_reads_60 : decode cX7_reads 60 = .ok (.iload_n 3, 1) := bdX7_reads_0 (60, .iload_n 3, 1) (List.mem_of_getElem? (i := 32) rfl)
theorem dX7_reads_61 : decode cX7_reads 61 = .ok (.iaload, 1) := bdX7_reads_0 (61, .iaload, 1) (List.mem_of_getElem? (i := 33) rfl)
theorem dX7_reads_62 : decode cX7_reads 62 = .ok (.aload_n 0, 1) := bdX7_reads_0 (62, .aload_n 0, 1) (List.mem_of_getElem? (i := 34) rfl)
theorem dX7_reads_63 : decode cX7_reads 63 = .ok (.getfield 10, 3) := bdX7_reads_0 (63, .getfield 10, 3) (List.mem_of_getElem? (i := 35) rfl)
theorem dX7_reads_66 : decode cX7_reads 66 = .ok (.getfield 101, 3) := bdX7_reads_0 (66, .getfield 101, 3) (List.mem_of_getElem? (i := 36) rfl)
theorem dX7_reads_69 : decode cX7_reads 69 = .ok (.iload_n 3, 1) := bdX7_reads_0 (69, .iload_n 3, 1) (List.mem_of_getElem? (i := 37) rfl)
theorem dX7_reads_70 : decode cX7_reads 70 = .ok (.iaload, 1) := bdX7_reads_0 (70, .iaload, 1) (List.mem_of_getElem? (i := 38) rfl)
theorem dX7_reads_71 : decode cX7_reads 71 = .ok (.if_icmp .eq 5, 3) := bdX7_reads_0 (71, .if_icmp .eq 5, 3) (List.mem_of_getElem? (i := 39) rfl)
theorem bdX7_reads_74 : ∀ q ∈ ([(74, .iload_n 3, 1), (75, .ireturn, 1), (76, .iinc 3 1, 3), (79, .goto (-50), 3), (82, .ldc 173, 2), (84, .ireturn, 1)] : List (Nat × Jvm.ClassFile.Instr × Nat)), decode cX7_reads q.1 = .ok q.2 := chk_ok _ 74 _ rfl (by decide +kernel)
theorem dX7_reads_74 : decode cX7_reads 74 = .ok (.iload_n 3, 1) := bdX7_reads_74 (74, .iload_n 3, 1) (List.mem_of_getElem? (i := 0) rfl)
theorem dX7_reads_75 : decode cX7_reads 75 = .ok (.ireturn, 1) := bdX7_reads_74 (75, .ireturn, 1) (List.mem_of_getElem? (i := 1) rfl)
theorem dX7_reads_76 : decode cX7_reads 76 = .ok (.iinc 3 1, 3) := bdX7_reads_74 (76, .iinc 3 1, 3) (List.mem_of_getElem? (i := 2) rfl)
theorem dX7_reads_79 : decode cX7_reads 79 = .ok (.goto (-50), 3) := bdX7_reads_74 (79, .goto (-50), 3) (List.mem_of_getElem? (i := 3) rfl)
theorem dX7_reads_82 : decode cX7_reads 82 = .ok (.ldc 173, 2) := bdX7_reads_74 (82, .ldc 173, 2) (List.mem_of_getElem? (i := 4) rfl)
theorem dX7_reads_84 : decode cX7_reads 84 = .ok (.ireturn, 1) := bdX7_reads_74 (84, .ireturn, 1) (List.mem_of_getElem? (i := 5) rfl)
theorem fX7_281 : fldOK RX7 281 3 1 .int false := ⟨_, _, _, tyX3, ⟨rfl, iX3, by decide, rfl, by decide⟩, tw_246, ⟨tyX3_ok, nmX3⟩, by decide +kernel, rfl, rfl⟩
def BX7_reads_76 (ln : Nat → Nat) (post : Int32 → HC → Prop) (K29 : HC → Nat → Nat → Int32 → Prop) (S : HC) (x0 : Nat) (x2 : Nat) (x3 : Int32) : Prop := lt_ (x3 + (1 : Int32)) fun z1 => K29 S x0 x2 z1
def BX7_reads_74 (ln : Nat → Nat) (post : Int32 → HC → Prop) (K29 : HC → Nat → Nat → Int32 → Prop) (S : HC) (x3 : Int32) : Prop := post x3 S
def LX7_reads_29 (ln : Nat → Nat) (post : Int32 → HC → Prop) : Nat → HC → Nat → Nat → Int32 → Prop
  | 0 => fun _ _ _ _ => False
  | n29 + 1 => fun S x0 x2 x3 => lt_ (hI S x2 1) fun z2 => if z2 ≤ x3 then (post (-1000000005 : Int32) S) else (wpX3_isNumber ln S x2 x3 fun z3 S => if z3 = 0 then (BX7_reads_76 ln post (LX7_reads_29 ln post n29) S x0 x2 x3) else (dn_ (hR S x0 0) fun b4 => wpX0_has ln S b4 x3 fun z5 S => if z5 = 0 then (BX7_reads_74 ln post (LX7_reads_29 ln post n29) S x3) else (dn_ (hR S x2 2) fun b6 => al_ (ln b6) x3 (hI S b6) fun z7 => dn_ (hR S x0 0) fun b8 => dn_ (hR S b8 4) fun b9 => al_ (ln b9) x3 (hI S b9) fun z10 => if z7 = z10 then (BX7_reads_76 ln post (LX7_reads_29 ln post n29) S x0 x2 x3) else (BX7_reads_74 ln post (LX7_reads_29 ln post n29) S x3))))
def wpX7_reads (ln : Nat → Nat) (S : HC) (a0 : Nat) (a1 : Int32) (post : Int32 → HC → Prop) : Prop := wpX7_isSheet ln S a1 fun z11 S => if z11 = 0 then (post (-1000000001 : Int32) S) else (dn_ (hR S a0 6) fun b12 => al_ (ln b12) a1 (hR S b12) fun o => dn_ o fun b13 => wpX3_isMissing ln S b13 fun z14 S => if z14 = 0 then (∃ n29, LX7_reads_29 ln post n29 S a0 b13 (0 : Int32)) else (post (-1000000011 : Int32) S))
abbrev rmX7_reads : Room := { frames := 2, cells := 0, slots := 0, locals := 42 }
set_option maxHeartbeats 4000000 in
set_option maxRecDepth 100000 in
theorem ctX7_reads {l : Launch} {g : GX} {N : Nat} {ln : Nat → Nat} {S : HC} {a0 : Nat} {a1 : Int32} {post : Int32 → HC → Prop} (hr_a0 : a0 < N) (hk_a0 : kd a0 = 7) (h : wpX7_reads ln S a0 a1 post) : Met l yX7_reads (Cond.code yX7_reads prog_1_method_32_code 4 (Option.some Jvm.ClassFile.FieldType.int) :: gtbl) rmX7_reads (va_Pc [.ref (gz g + a0), .int a1] (AtP g N ln S)) (QI g N ln post) 0 0 (gF g) := by
  refine m_of (by decide) (Nat.le_of_ble_eq_true rfl) ?_
  intro p e s m below meth c ls F hr I hl
  have hl : lv_has ls 4 [(0, .ref (gz g + a0)), (1, .int a1)] := hl
  unfold wpX7_reads at h
  have hl_29 : ∀ n29 : Nat, ∀ (S : HC) (H : Heap) (locs : List Loc) (ls : Array Slot) (x0 : Nat) (x2 : Nat) (x3 : Int32), x0 < N → kd x0 = 7 → x2 < N → kd x2 = 3 → LX7_reads_29 ln post n29 S x0 x2 x3 → Inv g N ln S s H locs → lv_has ls 4 [(0, .ref (gz g + x0)), (2, .ref (gz g + x2)), (3, .int x3)] → W p l e rmX7_reads s m ([.ref (gz g + a0), .int a1] : List Value).toArray below meth c H locs 0 0 (MQ below (QI g N ln post) ([.ref (gz g + a0), .int a1] : List Value).toArray s 0 0 (gF g)) (F0 m 29 ls []) := by
    intro n29
    induction n29 with
    | zero =>
      intro S H locs ls x0 x2 x3 hr_x0 hk_x0 hr_x2 hk_x2 h I hl
      exact h.elim
    | succ n29 ih =>
      have hk29 := ih
      have hj_76 : ∀ (S : HC) (H : Heap) (locs : List Loc) (ls : Array Slot) (x0 : Nat) (x2 : Nat) (x3 : Int32), x0 < N → kd x0 = 7 → x2 < N → kd x2 = 3 → BX7_reads_76 ln post (LX7_reads_29 ln post n29) S x0 x2 x3 → Inv g N ln S s H locs → lv_has ls 4 [(0, .ref (gz g + x0)), (2, .ref (gz g + x2)), (3, .int x3)] → W p l e rmX7_reads s m ([.ref (gz g + a0), .int a1] : List Value).toArray below meth c H locs 0 0 (MQ below (QI g N ln post) ([.ref (gz g + a0), .int a1] : List Value).toArray s 0 0 (gF g)) (F0 m 76 ls []) := by
        intro S H locs ls x0 x2 x3 hr_x0 hk_x0 hr_x2 hk_x2 h I hl
        unfold BX7_reads_76 at h
        obtain ⟨z1, e_z1, h⟩ := lt_x h
        refine lv_iinc (v := z1) (lv' := [(3, .int z1), (0, .ref (gz g + x0)), (2, .ref (gz g + x2))]) F.1 F.2.1 dX7_reads_76 hl (k := 2) rfl (by rw [e_z1]; rfl) (by decide) rfl (fun ls hl => ?_)
        refine lv_goto (tgt := 29) F.1 F.2.1 dX7_reads_79 (by decide) ?_
        exact hk29 S _ _ _ x0 x2 z1 hr_x0 hk_x0 hr_x2 hk_x2 h I (lv_sub hl [1, 2, 0] rfl)
      have hj_74 : ∀ (S : HC) (H : Heap) (locs : List Loc) (ls : Array Slot) (x3 : Int32), BX7_reads_74 ln post (LX7_reads_29 ln post n29) S x3 → Inv g N ln S s H locs → lv_has ls 4 [(3, .int x3)] → W p l e rmX7_reads s m ([.ref (gz g + a0), .int a1] : List Value).toArray below meth c H locs 0 0 (MQ below (QI g N ln post) ([.ref (gz g + a0), .int a1] : List Value).toArray s 0 0 (gF g)) (F0 m 74 ls []) := by
        intro S H locs ls x3 h I hl
        unfold BX7_reads_74 at h
        refine lv_iload_n F.1 F.2.1 dX7_reads_74 rfl (lv_at hl 0 rfl) ?_
        exact r_ireturn F I ⟨hr.1, hr.2.1, trivial⟩ h dX7_reads_75
      intro S H locs ls x0 x2 x3 hr_x0 hk_x0 hr_x2 hk_x2 h I hl
      rw [LX7_reads_29] at h
      refine lv_iload_n F.1 F.2.1 dX7_reads_29 rfl (lv_at hl 2 rfl) ?_
      refine lv_aload_n F.1 F.2.1 dX7_reads_30 rfl (lv_at hl 1 rfl) ?_
      refine r_getI F I hr_x2 hk_x2 fX7_281 rfl dX7_reads_31 h (fun z2 h => ?_)
      refine r_icmp_ge (tgt := 82) F dX7_reads_34 (by decide) h (fun h => ?_) (fun h => ?_)
      · refine lv_ldc F.1 F.2.1 F.2.2.2.1 (F.2.2.2.2 _ tw_534) dX7_reads_82 ?_
        exact r_ireturn F I ⟨hr.1, hr.2.1, trivial⟩ h dX7_reads_84
      · refine lv_aload_n F.1 F.2.1 dX7_reads_37 rfl (lv_at hl 1 rfl) ?_
        refine lv_iload_n F.1 F.2.1 dX7_reads_38 rfl (lv_at hl 2 rfl) ?_
        refine g_I I (run_V (As := [.int x3]) (rest := []) F I hr_x2 hk_x2 (by decide) kX7_275 (ctX3_isNumber hr_x2 hk_x2 h) ⟨rfl, rfl⟩ ⟨Nat.le_of_ble_eq_true rfl, Nat.le_of_ble_eq_true rfl⟩ rfl hl.1 rfl (Nat.le_of_ble_eq_true rfl) ⟨Nat.le_of_ble_eq_true rfl, Nat.le_of_ble_eq_true rfl⟩ dX7_reads_39) (fun z3 S H locs I h => ?_)
        refine r_if_eq (tgt := 76) F dX7_reads_42 (by decide) h (fun h => ?_) (fun h => ?_)
        · exact hj_76 S _ _ _ x0 x2 x3 hr_x0 hk_x0 hr_x2 hk_x2 h I (lv_sub hl [0, 1, 2] rfl)
        · refine lv_aload_n F.1 F.2.1 dX7_reads_45 rfl (lv_at hl 0 rfl) ?_
          refine r_getN F I hr_x0 hk_x0 fX7_10 (f := 0) rfl (by decide) dX7_reads_46 h (fun b4 hr_b4 hk_b4 h => ?_)
          refine lv_iload_n F.1 F.2.1 dX7_reads_49 rfl (lv_at hl 2 rfl) ?_
          refine g_I I (run_V (As := [.int x3]) (rest := []) F I hr_b4 hk_b4 (by decide) kX7_86 (ctX0_has hr_b4 hk_b4 h) ⟨rfl, rfl⟩ ⟨Nat.le_of_ble_eq_true rfl, Nat.le_of_ble_eq_true rfl⟩ rfl hl.1 rfl (Nat.le_of_ble_eq_true rfl) ⟨Nat.le_of_ble_eq_true rfl, Nat.le_of_ble_eq_true rfl⟩ dX7_reads_50) (fun z5 S H locs I h => ?_)
          refine r_if_eq (tgt := 74) F dX7_reads_53 (by decide) h (fun h => ?_) (fun h => ?_)
          · exact hj_74 S _ _ _ x3  h I (lv_sub hl [2] rfl)
          · refine lv_aload_n F.1 F.2.1 dX7_reads_56 rfl (lv_at hl 1 rfl) ?_
            refine r_getN F I hr_x2 hk_x2 fX7_270 (f := 9) rfl (by decide) dX7_reads_57 h (fun b6 hr_b6 hk_b6 h => ?_)
            refine lv_iload_n F.1 F.2.1 dX7_reads_60 rfl (lv_at hl 2 rfl) ?_
            refine r_ald F I hr_b6 hk_b6 dX7_reads_61 h (fun z7 h => ?_)
            refine lv_aload_n F.1 F.2.1 dX7_reads_62 rfl (lv_at hl 0 rfl) ?_
            refine r_getN F I hr_x0 hk_x0 fX7_10 (f := 0) rfl (by decide) dX7_reads_63 h (fun b8 hr_b8 hk_b8 h => ?_)
            refine r_getN F I hr_b8 hk_b8 fX7_101 (f := 9) rfl (by decide) dX7_reads_66 h (fun b9 hr_b9 hk_b9 h => ?_)
            refine lv_iload_n F.1 F.2.1 dX7_reads_69 rfl (lv_at hl 2 rfl) ?_
            refine r_ald F I hr_b9 hk_b9 dX7_reads_70 h (fun z10 h => ?_)
            refine r_icmp_eq (tgt := 76) F dX7_reads_71 (by decide) h (fun h => ?_) (fun h => ?_)
            · exact hj_76 S _ _ _ x0 x2 x3 hr_x0 hk_x0 hr_x2 hk_x2 h I (lv_sub hl [0, 1, 2] rfl)
            · exact hj_74 S _ _ _ x3  h I (lv_sub hl [2] rfl)
  refine lv_iload_n F.1 F.2.1 dX7_reads_0 rfl (lv_at hl 1 rfl) ?_
  refine g_I I (run_S (As := [.int a1]) (rest := []) F I kX7_200 (ctX7_isSheet h) ⟨rfl, rfl⟩ ⟨Nat.le_of_ble_eq_true rfl, Nat.le_of_ble_eq_true rfl⟩ rfl hl.1 rfl (Nat.le_of_ble_eq_true rfl) ⟨Nat.le_of_ble_eq_true rfl, Nat.le_of_ble_eq_true rfl⟩ dX7_reads_1) (fun z11 S H locs I h => ?_)
  refine r_if_ne (tgt := 10) F dX7_reads_4 (by decide) h (fun h => ?_) (fun h => ?_)
  · refine lv_aload_n F.1 F.2.1 dX7_reads_10 rfl (lv_at hl 0 rfl) ?_
    refine r_getN F I hr_a0 hk_a0 fX7_42 (f := 14) rfl (by decide) dX7_reads_11 h (fun b12 hr_b12 hk_b12 h => ?_)
    refine lv_iload_n F.1 F.2.1 dX7_reads_14 rfl (lv_at hl 1 rfl) ?_
    refine r_aldN F I hr_b12 hk_b12 (by decide) (f := 3) rfl dX7_reads_15 h (fun b13 hr_b13 hk_b13 h => ?_)
    refine lv_astore_n (lv' := [(2, .ref (gz g + b13)), (0, .ref (gz g + a0)), (1, .int a1)]) F.1 F.2.1 dX7_reads_16 rfl hl (by decide) rfl (fun ls hl => ?_)
    refine lv_aload_n F.1 F.2.1 dX7_reads_17 rfl (lv_at hl 0 rfl) ?_
    refine g_I I (run_V (As := []) (rest := []) F I hr_b13 hk_b13 (by decide) kX7_203 (ctX3_isMissing hr_b13 hk_b13 h) ⟨rfl, rfl⟩ ⟨Nat.le_of_ble_eq_true rfl, Nat.le_of_ble_eq_true rfl⟩ rfl hl.1 rfl (Nat.le_of_ble_eq_true rfl) ⟨Nat.le_of_ble_eq_true rfl, Nat.le_of_ble_eq_true rfl⟩ dX7_reads_18) (fun z14 S H locs I h => ?_)
    refine r_if_eq (tgt := 27) F dX7_reads_21 (by decide) h (fun h => ?_) (fun h => ?_)
    · refine lv_iconst (v := 0) F.1 F.2.1 dX7_reads_27 (by decide) ?_
      refine lv_istore_n (lv' := [(3, .int (0 : Int32)), (2, .ref (gz g + b13)), (0, .ref (gz g + a0)), (1, .int a1)]) F.1 F.2.1 dX7_reads_28 rfl hl (by decide) rfl (fun ls hl => ?_)
      obtain ⟨n29, h⟩ := h
      exact hl_29 n29 S _ _ _ a0 b13 (0 : Int32) hr_a0 hk_a0 hr_b13 hk_b13 h I (lv_sub hl [2, 1, 0] rfl)
    · refine lv_ldc F.1 F.2.1 F.2.2.2.1 (F.2.2.2.2 _ tw_593) dX7_reads_24 ?_
      exact r_ireturn F I ⟨hr.1, hr.2.1, trivial⟩ h dX7_reads_26
  · refine lv_ldc F.1 F.2.1 F.2.2.2.1 (F.2.2.2.2 _ tw_334) dX7_reads_7 ?_
    exact r_ireturn F I ⟨hr.1, hr.2.1, trivial⟩ h dX7_reads_9
theorem bdX7_copy_0 : ∀ q ∈ ([(0, .iload_n 1, 1), (1, .invokestatic 200, 3), (4, .ifCond .eq 10, 3), (7, .iload_n 3, 1), (8, .invokestatic 200, 3), (11, .ifCond .ne 6, 3), (14, .ldc 73, 2), (16, .ireturn, 1), (17, .aload_n 0, 1), (18, .getfield 42, 3), (21, .iload_n 1, 1), (22, .aaload, 1), (25, .aload_n 0, 1), (26, .getfield 42, 3), (29, .iload_n 3, 1), (30, .aaload, 1), (33, .aload 6, 2), (35, .invokevirtual 203, 3), (38, .ifCond .ne 11, 3), (41, .aload 7, 2), (43, .invokevirtual 203, 3), (46, .ifCond .eq 6, 3), (49, .ldc 206, 2), (51, .ireturn, 1), (52, .aload 6, 2), (54, .getfield 267, 3), (57, .aload 7, 2), (59, .getfield 267, 3), (62, .if_icmp .eq 6, 3), (65, .ldc 128, 2), (67, .ireturn, 1), (68, .aload 6, 2), (70, .iload_n 2, 1), (71, .iload 5, 2), (73, .invokevirtual 282, 3), (76, .ifCond .eq 15, 3), (79, .aload 7, 2), (81, .iload 4, 2), (83, .iload 5, 2), (85, .invokevirtual 282, 3)] : List (Nat × Jvm.ClassFile.Instr × Nat)), decode cX7_copy q.1 = .ok q.2 := chk_ok _ 0 _ rfl (by decide +kernel)
theorem dX7_copy_0 : decode cX7_copy 0 = .ok (.iload_n 1, 1) := bdX7_copy_0 (0, .iload_n 1, 1) (List.mem_of_getElem? (i := 0) rfl)
theorem dX7_copy_1 : decode cX7_copy 1 = .ok (.invokestatic 200, 3) := bdX7_copy_0 (1, .invokestatic 200, 3) (List.mem_of_getElem? (i := 1) rfl)
theorem dX7_copy_4 : decode cX7_copy 4 = .ok (.ifCond .eq 10, 3) := bdX7_copy_0 (4, .ifCond .eq 10, 3) (List.mem_of_getElem? (i := 2) rfl)
theorem dX7_copy_7 : decode cX7_copy 7 = .ok (.iload_n 3, 1) := bdX7_copy_0 (7, .iload_n 3, 1) (List.mem_of_getElem? (i := 3) rfl)
theorem dX7_copy_8 : decode cX7_copy 8 = .ok (.invokestatic 200, 3) := bdX7_copy_0 (8, .invokestatic 200, 3) (List.mem_of_getElem? (i := 4) rfl)
theorem dX7_copy_11 : decode cX7_copy 11 = .ok (.ifCond .ne 6, 3) := bdX7_copy_0 (11, .ifCond .ne 6, 3) (List.mem_of_getElem? (i := 5) rfl)
theorem dX7_copy_14 : decode cX7_copy 14 = .ok (.ldc 73, 2) := bdX7_copy_0 (14, .ldc 73, 2) (List.mem_of_getElem? (i := 6) rfl)
theorem dX7_copy_16 : decode cX7_copy 16 = .ok (.ireturn, 1) := bdX7_copy_0 (16, .ireturn, 1) (List.mem_of_getElem? (i := 7) rfl)
theorem dX7_copy_17 : decode cX7_copy 17 = .ok (.aload_n 0, 1) := bdX7_copy_0 (17, .aload_n 0, 1) (List.mem_of_getElem? (i := 8) rfl)
theorem dX7_copy_18 : decode cX7_copy 18 = .ok (.getfield 42, 3) := bdX7_copy_0 (18, .getfield 42, 3) (List.mem_of_getElem? (i := 9) rfl)
theorem dX7_copy_21 : decode cX7_copy 21 = .ok (.iload_n 1, 1) := bdX7_copy_0 (21, .iload_n 1, 1) (List.mem_of_getElem? (i := 10) rfl)
theorem dX7_copy_22 : decode cX7_copy 22 = .ok (.aaload, 1) := bdX7_copy_0 (22, .aaload, 1) (List.mem_of_getElem? (i := 11) rfl)
theorem dX7_copy_25 : decode cX7_copy 25 = .ok (.aload_n 0, 1) := bdX7_copy_0 (25, .aload_n 0, 1) (List.mem_of_getElem? (i := 12) rfl)
theorem dX7_copy_26 : decode cX7_copy 26 = .ok (.getfield 42, 3) := bdX7_copy_0 (26, .getfield 42, 3) (List.mem_of_getElem? (i := 13) rfl)
theorem dX7_copy_29 : decode cX7_copy 29 = .ok (.iload_n 3, 1) := bdX7_copy_0 (29, .iload_n 3, 1) (List.mem_of_getElem? (i := 14) rfl)
theorem dX7_copy_30 : decode cX7_copy 30 = .ok (.aaload, 1) := bdX7_copy_0 (30, .aaload, 1) (List.mem_of_getElem? (i := 15) rfl)
theorem dX7_copy_33 : decode cX7_copy 33 = .ok (.aload 6, 2) := bdX7_copy_0 (33, .aload 6, 2) (List.mem_of_getElem? (i := 16) rfl)
theorem dX7_copy_35 : decode cX7_copy 35 = .ok (.invokevirtual 203, 3) := bdX7_copy_0 (35, .invokevirtual 203, 3) (List.mem_of_getElem? (i := 17) rfl)
theorem dX7_copy_38 : decode cX7_copy 38 = .ok (.ifCond .ne 11, 3) := bdX7_copy_0 (38, .ifCond .ne 11, 3) (List.mem_of_getElem? (i := 18) rfl)
theorem dX7_copy_41 : decode cX7_copy 41 = .ok (.aload 7, 2) := bdX7_copy_0 (41, .aload 7, 2) (List.mem_of_getElem? (i := 19) rfl)
theorem dX7_copy_43 : decode cX7_copy 43 = .ok (.invokevirtual 203, 3) := bdX7_copy_0 (43, .invokevirtual 203, 3) (List.mem_of_getElem? (i := 20) rfl)
theorem dX7_copy_46 : decode cX7_copy 46 = .ok (.ifCond .eq 6, 3) := bdX7_copy_0 (46, .ifCond .eq 6, 3) (List.mem_of_getElem? (i := 21) rfl)
theorem dX7_copy_49 : decode cX7_copy 49 = .ok (.ldc 206, 2) := bdX7_copy_0 (49, .ldc 206, 2) (List.mem_of_getElem? (i := 22) rfl)
theorem dX7_copy_51 : decode cX7_copy 51 = .ok (.ireturn, 1) := bdX7_copy_0 (51, .ireturn, 1) (List.mem_of_getElem? (i := 23) rfl)
theorem dX7_copy_52 : decode cX7_copy 52 = .ok (.aload 6, 2) := bdX7_copy_0 (52, .aload 6, 2) (List.mem_of_getElem? (i := 24) rfl)
theorem dX7_copy_54 : decode cX7_copy 54 = .ok (.getfield 267, 3) := bdX7_copy_0 (54, .getfield 267, 3) (List.mem_of_getElem? (i := 25) rfl)
theorem dX7_copy_57 : decode cX7_copy 57 = .ok (.aload 7, 2) := bdX7_copy_0 (57, .aload 7, 2) (List.mem_of_getElem? (i := 26) rfl)
theorem dX7_copy_59 : decode cX7_copy 59 = .ok (.getfield 267, 3) := bdX7_copy_0 (59, .getfield 267, 3) (List.mem_of_getElem? (i := 27) rfl)
theorem dX7_copy_62 : decode cX7_copy 62 = .ok (.if_icmp .eq 6, 3) := bdX7_copy_0 (62, .if_icmp .eq 6, 3) (List.mem_of_getElem? (i := 28) rfl)
theorem dX7_copy_65 : decode cX7_copy 65 = .ok (.ldc 128, 2) := bdX7_copy_0 (65, .ldc 128, 2) (List.mem_of_getElem? (i := 29) rfl)
theorem dX7_copy_67 : decode cX7_copy 67 = .ok (.ireturn, 1) := bdX7_copy_0 (67, .ireturn, 1) (List.mem_of_getElem? (i := 30) rfl)
theorem dX7_copy_68 : decode cX7_copy 68 = .ok (.aload 6, 2) := bdX7_copy_0 (68, .aload 6, 2) (List.mem_of_getElem? (i := 31) rfl)
theorem dX7_copy_70 : decode cX7_copy 70 = .ok (.iload_n 2, 1) := bdX7_copy_0 (70, .iload_n 2, 1) (List.mem_of_getElem? (i := 32) rfl)
theorem dX7_copy_71 : decode cX7_copy 71 = .ok (.iload 5, 2) := bdX7_copy_0 (71, .iload 5, 2) (List.mem_of_getElem? (i := 33) rfl)
theorem dX7_copy_73 : decode cX7_copy 73 = .ok (.invokevirtual 282, 3) := bdX7_copy_0 (73, .invokevirtual 282, 3) (List.mem_of_getElem? (i := 34) rfl)
theorem dX7_copy_76 : decode cX7_copy 76 = .ok (.ifCond .eq 15, 3) := bdX7_copy_0 (76, .ifCond .eq 15, 3) (List.mem_of_getElem? (i := 35) rfl)
theorem dX7_copy_79 : decode cX7_copy 79 = .ok (.aload 7, 2) := bdX7_copy_0 (79, .aload 7, 2) (List.mem_of_getElem? (i := 36) rfl)
theorem dX7_copy_81 : decode cX7_copy 81 = .ok (.iload 4, 2) := bdX7_copy_0 (81, .iload 4, 2) (List.mem_of_getElem? (i := 37) rfl)
theorem dX7_copy_83 : decode cX7_copy 83 = .ok (.iload 5, 2) := bdX7_copy_0 (83, .iload 5, 2) (List.mem_of_getElem? (i := 38) rfl)
theorem dX7_copy_85 : decode cX7_copy 85 = .ok (.invokevirtual 282, 3) := bdX7_copy_0 (85, .invokevirtual 282, 3) (List.mem_of_getElem? (i := 39) rfl)
theorem bdX7_copy_88 : ∀ q ∈ ([(88, .ifCond .ne 7, 3), (91, .ldc_w 266, 3), (94, .ireturn, 1), (95, .aload 6, 2), (97, .getfield 270, 3), (100, .iload_n 2, 1), (101, .aload 7, 2), (103, .getfield 270, 3), (106, .iload 4, 2), (108, .iload 5, 2), (110, .invokestatic 285, 3), (113, .iload 5, 2), (115, .ireturn, 1)] : List (Nat × Jvm.ClassFile.Instr × Nat)), decode cX7_copy q.1 = .ok q.2 := chk_ok _ 88 _ rfl (by decide +kernel)
theorem dX7_copy_88 : decode cX7_copy 88 = .ok (.ifCond .ne 7, 3) := bdX7_copy_88 (88, .ifCond .ne 7, 3) (List.mem_of_getElem? (i := 0) rfl)
theorem dX7_copy_91 : decode cX7_copy 91 = .ok (.ldc_w 266, 3) := bdX7_copy_88 (91, .ldc_w 266, 3) (List.mem_of_getElem? (i := 1) rfl)
theorem dX7_copy_94 : decode cX7_copy 94 = .ok (.ireturn, 1) := bdX7_copy_88 (94, .ireturn, 1) (List.mem_of_getElem? (i := 2) rfl)
theorem dX7_copy_95 : decode cX7_copy 95 = .ok (.aload 6, 2) := bdX7_copy_88 (95, .aload 6, 2) (List.mem_of_getElem? (i := 3) rfl)
theorem dX7_copy_97 : decode cX7_copy 97 = .ok (.getfield 270, 3) := bdX7_copy_88 (97, .getfield 270, 3) (List.mem_of_getElem? (i := 4) rfl)
theorem dX7_copy_100 : decode cX7_copy 100 = .ok (.iload_n 2, 1) := bdX7_copy_88 (100, .iload_n 2, 1) (List.mem_of_getElem? (i := 5) rfl)
theorem dX7_copy_101 : decode cX7_copy 101 = .ok (.aload 7, 2) := bdX7_copy_88 (101, .aload 7, 2) (List.mem_of_getElem? (i := 6) rfl)
theorem dX7_copy_103 : decode cX7_copy 103 = .ok (.getfield 270, 3) := bdX7_copy_88 (103, .getfield 270, 3) (List.mem_of_getElem? (i := 7) rfl)
theorem dX7_copy_106 : decode cX7_copy 106 = .ok (.iload 4, 2) := bdX7_copy_88 (106, .iload 4, 2) (List.mem_of_getElem? (i := 8) rfl)
theorem dX7_copy_108 : decode cX7_copy 108 = .ok (.iload 5, 2) := bdX7_copy_88 (108, .iload 5, 2) (List.mem_of_getElem? (i := 9) rfl)
theorem dX7_copy_110 : decode cX7_copy 110 = .ok (.invokestatic 285, 3) := bdX7_copy_88 (110, .invokestatic 285, 3) (List.mem_of_getElem? (i := 10) rfl)
theorem dX7_copy_113 : decode cX7_copy 113 = .ok (.iload 5, 2) := bdX7_copy_88 (113, .iload 5, 2) (List.mem_of_getElem? (i := 11) rfl)
theorem dX7_copy_115 : decode cX7_copy 115 = .ok (.ireturn, 1) := bdX7_copy_88 (115, .ireturn, 1) (List.mem_of_getElem? (i := 12) rfl)
theorem dX7_copy_23 : decode cX7_copy 23 = .ok (.astore 6, 2) := by decide +kernel
theorem dX7_copy_31 : decode cX7_copy 31 = .ok (.astore 7, 2) := by decide +kernel
theorem kX7_282 : mthV RX7 282 3 yX3_hasSpan prog_5_method_6_code 3 (Option.some Jvm.ClassFile.FieldType.boolean) 2 := ⟨⟨⟨tw_872, tw_65, tw_875⟩, rfl, by decide +kernel⟩, tw_873, tw_874, rfl⟩
def BX7_copy_91 (ln : Nat → Nat) (post : Int32 → HC → Prop) (S : HC)  : Prop := post (-1000000013 : Int32) S
def BX7_copy_49 (ln : Nat → Nat) (post : Int32 → HC → Prop) (S : HC)  : Prop := post (-1000000011 : Int32) S
def BX7_copy_14 (ln : Nat → Nat) (post : Int32 → HC → Prop) (S : HC)  : Prop := post (-1000000001 : Int32) S
def wpX7_copy (ln : Nat → Nat) (S : HC) (a0 : Nat) (a1 : Int32) (a2 : Int32) (a3 : Int32) (a4 : Int32) (a5 : Int32) (post : Int32 → HC → Prop) : Prop := wpX7_isSheet ln S a1 fun z1 S => if z1 = 0 then (BX7_copy_14 ln post S) else (wpX7_isSheet ln S a3 fun z2 S => if z2 = 0 then (BX7_copy_14 ln post S) else (dn_ (hR S a0 6) fun b3 => al_ (ln b3) a1 (hR S b3) fun o => dn_ o fun b4 => dn_ (hR S a0 6) fun b5 => al_ (ln b5) a3 (hR S b5) fun o => dn_ o fun b6 => wpX3_isMissing ln S b4 fun z7 S => if z7 = 0 then (wpX3_isMissing ln S b6 fun z8 S => if z8 = 0 then (lt_ (hI S b4 0) fun z9 => lt_ (hI S b6 0) fun z10 => if z9 = z10 then (wpX3_hasSpan ln S b4 a2 a5 fun z11 S => if z11 = 0 then (BX7_copy_91 ln post S) else (wpX3_hasSpan ln S b6 a4 a5 fun z12 S => if z12 = 0 then (BX7_copy_91 ln post S) else (dn_ (hR S b4 2) fun b13 => dn_ (hR S b6 2) fun b14 => cp_ ln S b13 a2 b14 a4 a5 fun S => post a5 S))) else (post (-1000000012 : Int32) S)) else (BX7_copy_49 ln post S)) else (BX7_copy_49 ln post S)))
abbrev rmX7_copy : Room := { frames := 1, cells := 0, slots := 0, locals := 60 }
set_option maxHeartbeats 4000000 in
set_option maxRecDepth 100000 in
theorem ctX7_copy {l : Launch} {g : GX} {N : Nat} {ln : Nat → Nat} {S : HC} {a0 : Nat} {a1 : Int32} {a2 : Int32} {a3 : Int32} {a4 : Int32} {a5 : Int32} {post : Int32 → HC → Prop} (hr_a0 : a0 < N) (hk_a0 : kd a0 = 7) (h : wpX7_copy ln S a0 a1 a2 a3 a4 a5 post) : Met l yX7_copy (Cond.code yX7_copy prog_1_method_33_code 8 (Option.some Jvm.ClassFile.FieldType.int) :: gtbl) rmX7_copy (va_Pc [.ref (gz g + a0), .int a1, .int a2, .int a3, .int a4, .int a5] (AtP g N ln S)) (QI g N ln post) 0 0 (gF g) := by
  refine m_of (by decide) (Nat.le_of_ble_eq_true rfl) ?_
  intro p e s m below meth c ls F hr I hl
  have hl : lv_has ls 8 [(0, .ref (gz g + a0)), (1, .int a1), (2, .int a2), (3, .int a3), (4, .int a4), (5, .int a5)] := hl
  unfold wpX7_copy at h
  have hj_91 : ∀ (S : HC) (H : Heap) (locs : List Loc) (ls : Array Slot), BX7_copy_91 ln post S  → Inv g N ln S s H locs → lv_has ls 8 [] → W p l e rmX7_copy s m ([.ref (gz g + a0), .int a1, .int a2, .int a3, .int a4, .int a5] : List Value).toArray below meth c H locs 0 0 (MQ below (QI g N ln post) ([.ref (gz g + a0), .int a1, .int a2, .int a3, .int a4, .int a5] : List Value).toArray s 0 0 (gF g)) (F0 m 91 ls []) := by
    intro S H locs ls h I hl
    unfold BX7_copy_91 at h
    refine lv_ldcw F.1 F.2.1 F.2.2.2.1 (F.2.2.2.2 _ tw_855) dX7_copy_91 ?_
    exact r_ireturn F I ⟨hr.1, hr.2.1, trivial⟩ h dX7_copy_94
  have hj_49 : ∀ (S : HC) (H : Heap) (locs : List Loc) (ls : Array Slot), BX7_copy_49 ln post S  → Inv g N ln S s H locs → lv_has ls 8 [] → W p l e rmX7_copy s m ([.ref (gz g + a0), .int a1, .int a2, .int a3, .int a4, .int a5] : List Value).toArray below meth c H locs 0 0 (MQ below (QI g N ln post) ([.ref (gz g + a0), .int a1, .int a2, .int a3, .int a4, .int a5] : List Value).toArray s 0 0 (gF g)) (F0 m 49 ls []) := by
    intro S H locs ls h I hl
    unfold BX7_copy_49 at h
    refine lv_ldc F.1 F.2.1 F.2.2.2.1 (F.2.2.2.2 _ tw_593) dX7_copy_49 ?_
    exact r_ireturn F I ⟨hr.1, hr.2.1, trivial⟩ h dX7_copy_51
  have hj_14 : ∀ (S : HC) (H : Heap) (locs : List Loc) (ls : Array Slot), BX7_copy_14 ln post S  → Inv g N ln S s H locs → lv_has ls 8 [] → W p l e rmX7_copy s m ([.ref (gz g + a0), .int a1, .int a2, .int a3, .int a4, .int a5] : List Value).toArray below meth c H locs 0 0 (MQ below (QI g N ln post) ([.ref (gz g + a0), .int a1, .int a2, .int a3, .int a4, .int a5] : List Value).toArray s 0 0 (gF g)) (F0 m 14 ls []) := by
    intro S H locs ls h I hl
    unfold BX7_copy_14 at h
    refine lv_ldc F.1 F.2.1 F.2.2.2.1 (F.2.2.2.2 _ tw_334) dX7_copy_14 ?_
    exact r_ireturn F I ⟨hr.1, hr.2.1, trivial⟩ h dX7_copy_16
  refine lv_iload_n F.1 F.2.1 dX7_copy_0 rfl (lv_at hl 1 rfl) ?_
  refine g_I I (run_S (As := [.int a1]) (rest := []) F I kX7_200 (ctX7_isSheet h) ⟨rfl, rfl⟩ ⟨Nat.le_of_ble_eq_true rfl, Nat.le_of_ble_eq_true rfl⟩ rfl hl.1 rfl (Nat.le_of_ble_eq_true rfl) ⟨Nat.le_of_ble_eq_true rfl, Nat.le_of_ble_eq_true rfl⟩ dX7_copy_1) (fun z1 S H locs I h => ?_)
  refine r_if_eq (tgt := 14) F dX7_copy_4 (by decide) h (fun h => ?_) (fun h => ?_)
  · exact hj_14 S _ _ _   h I (lv_sub hl [] rfl)
  · refine lv_iload_n F.1 F.2.1 dX7_copy_7 rfl (lv_at hl 3 rfl) ?_
    refine g_I I (run_S (As := [.int a3]) (rest := []) F I kX7_200 (ctX7_isSheet h) ⟨rfl, rfl⟩ ⟨Nat.le_of_ble_eq_true rfl, Nat.le_of_ble_eq_true rfl⟩ rfl hl.1 rfl (Nat.le_of_ble_eq_true rfl) ⟨Nat.le_of_ble_eq_true rfl, Nat.le_of_ble_eq_true rfl⟩ dX7_copy_8) (fun z2 S H locs I h => ?_)
    refine r_if_ne (tgt := 17) F dX7_copy_11 (by decide) h (fun h => ?_) (fun h => ?_)
    · refine lv_aload_n F.1 F.2.1 dX7_copy_17 rfl (lv_at hl 0 rfl) ?_
      refine r_getN F I hr_a0 hk_a0 fX7_42 (f := 14) rfl (by decide) dX7_copy_18 h (fun b3 hr_b3 hk_b3 h => ?_)
      refine lv_iload_n F.1 F.2.1 dX7_copy_21 rfl (lv_at hl 1 rfl) ?_
      refine r_aldN F I hr_b3 hk_b3 (by decide) (f := 3) rfl dX7_copy_22 h (fun b4 hr_b4 hk_b4 h => ?_)
      refine lv_astore (lv' := [(6, .ref (gz g + b4)), (0, .ref (gz g + a0)), (1, .int a1), (2, .int a2), (3, .int a3), (4, .int a4), (5, .int a5)]) F.1 F.2.1 dX7_copy_23 hl (by decide) rfl (fun ls hl => ?_)
      refine lv_aload_n F.1 F.2.1 dX7_copy_25 rfl (lv_at hl 1 rfl) ?_
      refine r_getN F I hr_a0 hk_a0 fX7_42 (f := 14) rfl (by decide) dX7_copy_26 h (fun b5 hr_b5 hk_b5 h => ?_)
      refine lv_iload_n F.1 F.2.1 dX7_copy_29 rfl (lv_at hl 4 rfl) ?_
      refine r_aldN F I hr_b5 hk_b5 (by decide) (f := 3) rfl dX7_copy_30 h (fun b6 hr_b6 hk_b6 h => ?_)
      refine lv_astore (lv' := [(7, .ref (gz g + b6)), (6, .ref (gz g + b4)), (0, .ref (gz g + a0)), (1, .int a1), (2, .int a2), (3, .int a3), (4, .int a4), (5, .int a5)]) F.1 F.2.1 dX7_copy_31 hl (by decide) rfl (fun ls hl => ?_)
      refine lv_aload F.1 F.2.1 dX7_copy_33 (lv_at hl 1 rfl) ?_
      refine g_I I (run_V (As := []) (rest := []) F I hr_b4 hk_b4 (by decide) kX7_203 (ctX3_isMissing hr_b4 hk_b4 h) ⟨rfl, rfl⟩ ⟨Nat.le_of_ble_eq_true rfl, Nat.le_of_ble_eq_true rfl⟩ rfl hl.1 rfl (Nat.le_of_ble_eq_true rfl) ⟨Nat.le_of_ble_eq_true rfl, Nat.le_of_ble_eq_true rfl⟩ dX7_copy_35) (fun z7 S H locs I h => ?_)
      refine r_if_ne (tgt := 49) F dX7_copy_38 (by decide) h (fun h => ?_) (fun h => ?_)
      · exact hj_49 S _ _ _   h I (lv_sub hl [] rfl)
      · refine lv_aload F.1 F.2.1 dX7_copy_41 (lv_at hl 0 rfl) ?_
        refine g_I I (run_V (As := []) (rest := []) F I hr_b6 hk_b6 (by decide) kX7_203 (ctX3_isMissing hr_b6 hk_b6 h) ⟨rfl, rfl⟩ ⟨Nat.le_of_ble_eq_true rfl, Nat.le_of_ble_eq_true rfl⟩ rfl hl.1 rfl (Nat.le_of_ble_eq_true rfl) ⟨Nat.le_of_ble_eq_true rfl, Nat.le_of_ble_eq_true rfl⟩ dX7_copy_43) (fun z8 S H locs I h => ?_)
        refine r_if_eq (tgt := 52) F dX7_copy_46 (by decide) h (fun h => ?_) (fun h => ?_)
        · refine lv_aload F.1 F.2.1 dX7_copy_52 (lv_at hl 1 rfl) ?_
          refine r_getI F I hr_b4 hk_b4 fX7_267 rfl dX7_copy_54 h (fun z9 h => ?_)
          refine lv_aload F.1 F.2.1 dX7_copy_57 (lv_at hl 0 rfl) ?_
          refine r_getI F I hr_b6 hk_b6 fX7_267 rfl dX7_copy_59 h (fun z10 h => ?_)
          refine r_icmp_eq (tgt := 68) F dX7_copy_62 (by decide) h (fun h => ?_) (fun h => ?_)
          · refine lv_aload F.1 F.2.1 dX7_copy_68 (lv_at hl 1 rfl) ?_
            refine lv_iload_n F.1 F.2.1 dX7_copy_70 rfl (lv_at hl 4 rfl) ?_
            refine lv_iload F.1 F.2.1 dX7_copy_71 (lv_at hl 7 rfl) ?_
            refine g_I I (run_V (As := [.int a2, .int a5]) (rest := []) F I hr_b4 hk_b4 (by decide) kX7_282 (ctX3_hasSpan hr_b4 hk_b4 h) ⟨rfl, rfl⟩ ⟨Nat.le_of_ble_eq_true rfl, Nat.le_of_ble_eq_true rfl⟩ rfl hl.1 rfl (Nat.le_of_ble_eq_true rfl) ⟨Nat.le_of_ble_eq_true rfl, Nat.le_of_ble_eq_true rfl⟩ dX7_copy_73) (fun z11 S H locs I h => ?_)
            refine r_if_eq (tgt := 91) F dX7_copy_76 (by decide) h (fun h => ?_) (fun h => ?_)
            · exact hj_91 S _ _ _   h I (lv_sub hl [] rfl)
            · refine lv_aload F.1 F.2.1 dX7_copy_79 (lv_at hl 0 rfl) ?_
              refine lv_iload F.1 F.2.1 dX7_copy_81 (lv_at hl 6 rfl) ?_
              refine lv_iload F.1 F.2.1 dX7_copy_83 (lv_at hl 7 rfl) ?_
              refine g_I I (run_V (As := [.int a4, .int a5]) (rest := []) F I hr_b6 hk_b6 (by decide) kX7_282 (ctX3_hasSpan hr_b6 hk_b6 h) ⟨rfl, rfl⟩ ⟨Nat.le_of_ble_eq_true rfl, Nat.le_of_ble_eq_true rfl⟩ rfl hl.1 rfl (Nat.le_of_ble_eq_true rfl) ⟨Nat.le_of_ble_eq_true rfl, Nat.le_of_ble_eq_true rfl⟩ dX7_copy_85) (fun z12 S H locs I h => ?_)
              refine r_if_ne (tgt := 95) F dX7_copy_88 (by decide) h (fun h => ?_) (fun h => ?_)
              · refine lv_aload F.1 F.2.1 dX7_copy_95 (lv_at hl 1 rfl) ?_
                refine r_getN F I hr_b4 hk_b4 fX7_270 (f := 9) rfl (by decide) dX7_copy_97 h (fun b13 hr_b13 hk_b13 h => ?_)
                refine lv_iload_n F.1 F.2.1 dX7_copy_100 rfl (lv_at hl 4 rfl) ?_
                refine lv_aload F.1 F.2.1 dX7_copy_101 (lv_at hl 0 rfl) ?_
                refine r_getN F I hr_b6 hk_b6 fX7_270 (f := 9) rfl (by decide) dX7_copy_103 h (fun b14 hr_b14 hk_b14 h => ?_)
                refine lv_iload F.1 F.2.1 dX7_copy_106 (lv_at hl 6 rfl) ?_
                refine lv_iload F.1 F.2.1 dX7_copy_108 (lv_at hl 7 rfl) ?_
                refine r_copy F I hr_b13 hk_b13 hr_b14 hk_b14 hl.1 (by exact tw_876) (by exact tw_878) (by exact tw_877) (by exact tw_76) (Nat.le_of_ble_eq_true rfl) (Nat.le_of_ble_eq_true rfl) dX7_copy_110 h (fun S H locs I h => ?_)
                refine lv_iload F.1 F.2.1 dX7_copy_113 (lv_at hl 7 rfl) ?_
                exact r_ireturn F I ⟨hr.1, hr.2.1, trivial⟩ h dX7_copy_115
              · exact hj_91 S _ _ _   h I (lv_sub hl [] rfl)
          · refine lv_ldc F.1 F.2.1 F.2.2.2.1 (F.2.2.2.2 _ tw_438) dX7_copy_65 ?_
            exact r_ireturn F I ⟨hr.1, hr.2.1, trivial⟩ h dX7_copy_67
        · exact hj_49 S _ _ _   h I (lv_sub hl [] rfl)
    · exact hj_14 S _ _ _   h I (lv_sub hl [] rfl)
theorem bdX7_lay_0 : ∀ q ∈ ([(0, .iload_n 1, 1), (1, .invokestatic 291, 3), (4, .ifCond .eq 12, 3), (7, .iload_n 2, 1), (8, .ifCond .lt 8, 3), (11, .iload_n 2, 1), (12, .iconst 3, 1), (13, .if_icmp .le 6, 3), (16, .ldc 73, 2), (18, .ireturn, 1), (19, .iload_n 2, 1), (20, .iconst 1, 1), (21, .if_icmp .ne 14, 3), (24, .aload_n 0, 1), (25, .getfield 10, 3), (28, .iload_n 3, 1), (29, .invokevirtual 86, 3), (32, .ifCond .eq 15, 3), (35, .iload_n 2, 1), (36, .iconst 2, 1), (37, .if_icmp .ne 13, 3), (40, .iload_n 3, 1), (41, .invokestatic 200, 3), (44, .ifCond .ne 6, 3), (47, .ldc 73, 2), (49, .ireturn, 1), (50, .iload_n 2, 1), (51, .iconst 2, 1), (52, .if_icmp .ne 18, 3), (55, .aload_n 0, 1), (56, .getfield 42, 3), (59, .iload_n 3, 1), (60, .aaload, 1), (61, .invokevirtual 203, 3), (64, .ifCond .eq 6, 3), (67, .ldc 206, 2), (69, .ireturn, 1), (70, .aload_n 0, 1), (71, .getfield 48, 3), (74, .iload_n 1, 1)] : List (Nat × Jvm.ClassFile.Instr × Nat)), decode cX7_lay q.1 = .ok q.2 := chk_ok _ 0 _ rfl (by decide +kernel)
theorem dX7_lay_0 : decode cX7_lay 0 = .ok (.iload_n 1, 1) := bdX7_lay_0 (0, .iload_n 1, 1) (List.mem_of_getElem? (i := 0) rfl)
theorem dX7_lay_1 : decode cX7_lay 1 = .ok (.invokestatic 291, 3) := bdX7_lay_0 (1, .invokestatic 291, 3) (List.mem_of_getElem? (i := 1) rfl)
theorem dX7_lay_4 : decode cX7_lay 4 = .ok (.ifCond .eq 12, 3) := bdX7_lay_0 (4, .ifCond .eq 12, 3) (List.mem_of_getElem? (i := 2) rfl)
theorem dX7_lay_7 : decode cX7_lay 7 = .ok (.iload_n 2, 1) := bdX7_lay_0 (7, .iload_n 2, 1) (List.mem_of_getElem? (i := 3) rfl)
theorem dX7_lay_8 : decode cX7_lay 8 = .ok (.ifCond .lt 8, 3) := bdX7_lay_0 (8, .ifCond .lt 8, 3) (List.mem_of_getElem? (i := 4) rfl)
theorem dX7_lay_11 : decode cX7_lay 11 = .ok (.iload_n 2, 1) := bdX7_lay_0 (11, .iload_n 2, 1) (List.mem_of_getElem? (i := 5) rfl)
theorem dX7_lay_12 : decode cX7_lay 12 = .ok (.iconst 3, 1) := bdX7_lay_0 (12, .iconst 3, 1) (List.mem_of_getElem? (i := 6) rfl)
theorem dX7_lay_13 : decode cX7_lay 13 = .ok (.if_icmp .le 6, 3) := bdX7_lay_0 (13, .if_icmp .le 6, 3) (List.mem_of_getElem? (i := 7) rfl)
theorem dX7_lay_16 : decode cX7_lay 16 = .ok (.ldc 73, 2) := bdX7_lay_0 (16, .ldc 73, 2) (List.mem_of_getElem? (i := 8) rfl)
theorem dX7_lay_18 : decode cX7_lay 18 = .ok (.ireturn, 1) := bdX7_lay_0 (18, .ireturn, 1) (List.mem_of_getElem? (i := 9) rfl)
theorem dX7_lay_19 : decode cX7_lay 19 = .ok (.iload_n 2, 1) := bdX7_lay_0 (19, .iload_n 2, 1) (List.mem_of_getElem? (i := 10) rfl)
theorem dX7_lay_20 : decode cX7_lay 20 = .ok (.iconst 1, 1) := bdX7_lay_0 (20, .iconst 1, 1) (List.mem_of_getElem? (i := 11) rfl)
theorem dX7_lay_21 : decode cX7_lay 21 = .ok (.if_icmp .ne 14, 3) := bdX7_lay_0 (21, .if_icmp .ne 14, 3) (List.mem_of_getElem? (i := 12) rfl)
theorem dX7_lay_24 : decode cX7_lay 24 = .ok (.aload_n 0, 1) := bdX7_lay_0 (24, .aload_n 0, 1) (List.mem_of_getElem? (i := 13) rfl)
theorem dX7_lay_25 : decode cX7_lay 25 = .ok (.getfield 10, 3) := bdX7_lay_0 (25, .getfield 10, 3) (List.mem_of_getElem? (i := 14) rfl)
theorem dX7_lay_28 : decode cX7_lay 28 = .ok (.iload_n 3, 1) := bdX7_lay_0 (28, .iload_n 3, 1) (List.mem_of_getElem? (i := 15) rfl)
theorem dX7_lay_29 : decode cX7_lay 29 = .ok (.invokevirtual 86, 3) := bdX7_lay_0 (29, .invokevirtual 86, 3) (List.mem_of_getElem? (i := 16) rfl)
theorem dX7_lay_32 : decode cX7_lay 32 = .ok (.ifCond .eq 15, 3) := bdX7_lay_0 (32, .ifCond .eq 15, 3) (List.mem_of_getElem? (i := 17) rfl)
theorem dX7_lay_35 : decode cX7_lay 35 = .ok (.iload_n 2, 1) := bdX7_lay_0 (35, .iload_n 2, 1) (List.mem_of_getElem? (i := 18) rfl)
theorem dX7_lay_36 : decode cX7_lay 36 = .ok (.iconst 2, 1) := bdX7_lay_0 (36, .iconst 2, 1) (List.mem_of_getElem? (i := 19) rfl)
theorem dX7_lay_37 : decode cX7_lay 37 = .ok (.if_icmp .ne 13, 3) := bdX7_lay_0 (37, .if_icmp .ne 13, 3) (List.mem_of_getElem? (i := 20) rfl)
theorem dX7_lay_40 : decode cX7_lay 40 = .ok (.iload_n 3, 1) := bdX7_lay_0 (40, .iload_n 3, 1) (List.mem_of_getElem? (i := 21) rfl)
theorem dX7_lay_41 : decode cX7_lay 41 = .ok (.invokestatic 200, 3) := bdX7_lay_0 (41, .invokestatic 200, 3) (List.mem_of_getElem? (i := 22) rfl)
theorem dX7_lay_44 : decode cX7_lay 44 = .ok (.ifCond .ne 6, 3) := bdX7_lay_0 (44, .ifCond .ne 6, 3) (List.mem_of_getElem? (i := 23) rfl)
theorem dX7_lay_47 : decode cX7_lay 47 = .ok (.ldc 73, 2) := bdX7_lay_0 (47, .ldc 73, 2) (List.mem_of_getElem? (i := 24) rfl)
theorem dX7_lay_49 : decode cX7_lay 49 = .ok (.ireturn, 1) := bdX7_lay_0 (49, .ireturn, 1) (List.mem_of_getElem? (i := 25) rfl)
theorem dX7_lay_50 : decode cX7_lay 50 = .ok (.iload_n 2, 1) := bdX7_lay_0 (50, .iload_n 2, 1) (List.mem_of_getElem? (i := 26) rfl)
theorem dX7_lay_51 : decode cX7_lay 51 = .ok (.iconst 2, 1) := bdX7_lay_0 (51, .iconst 2, 1) (List.mem_of_getElem? (i := 27) rfl)
theorem dX7_lay_52 : decode cX7_lay 52 = .ok (.if_icmp .ne 18, 3) := bdX7_lay_0 (52, .if_icmp .ne 18, 3) (List.mem_of_getElem? (i := 28) rfl)
theorem dX7_lay_55 : decode cX7_lay 55 = .ok (.aload_n 0, 1) := bdX7_lay_0 (55, .aload_n 0, 1) (List.mem_of_getElem? (i := 29) rfl)
theorem dX7_lay_56 : decode cX7_lay 56 = .ok (.getfield 42, 3) := bdX7_lay_0 (56, .getfield 42, 3) (List.mem_of_getElem? (i := 30) rfl)
theorem dX7_lay_59 : decode cX7_lay 59 = .ok (.iload_n 3, 1) := bdX7_lay_0 (59, .iload_n 3, 1) (List.mem_of_getElem? (i := 31) rfl)
theorem dX7_lay_60 : decode cX7_lay 60 = .ok (.aaload, 1) := bdX7_lay_0 (60, .aaload, 1) (List.mem_of_getElem? (i := 32) rfl)
theorem dX7_lay_61 : decode cX7_lay 61 = .ok (.invokevirtual 203, 3) := bdX7_lay_0 (61, .invokevirtual 203, 3) (List.mem_of_getElem? (i := 33) rfl)
theorem dX7_lay_64 : decode cX7_lay 64 = .ok (.ifCond .eq 6, 3) := bdX7_lay_0 (64, .ifCond .eq 6, 3) (List.mem_of_getElem? (i := 34) rfl)
theorem dX7_lay_67 : decode cX7_lay 67 = .ok (.ldc 206, 2) := bdX7_lay_0 (67, .ldc 206, 2) (List.mem_of_getElem? (i := 35) rfl)
theorem dX7_lay_69 : decode cX7_lay 69 = .ok (.ireturn, 1) := bdX7_lay_0 (69, .ireturn, 1) (List.mem_of_getElem? (i := 36) rfl)
theorem dX7_lay_70 : decode cX7_lay 70 = .ok (.aload_n 0, 1) := bdX7_lay_0 (70, .aload_n 0, 1) (List.mem_of_getElem? (i := 37) rfl)
theorem dX7_lay_71 : decode cX7_lay 71 = .ok (.getfield 48, 3) := bdX7_lay_0 (71, .getfield 48, 3) (List.mem_of_getElem? (i := 38) rfl)
theorem dX7_lay_74 : decode cX7_lay 74 = .ok (.iload_n 1, 1) := bdX7_lay_0 (74, .iload_n 1, 1) (List.mem_of_getElem? (i := 39) rfl)
theorem bdX7_lay_75 : ∀ q ∈ ([(75, .aaload, 1), (78, .aload 4, 2), (80, .getfield 294, 3), (83, .istore 5, 2), (85, .aload 4, 2), (87, .iload_n 2, 1), (88, .putfield 294, 3), (91, .iload_n 2, 1), (92, .iconst 1, 1), (93, .if_icmp .ne 34, 3), (96, .aload 4, 2), (98, .aload_n 0, 1), (99, .getfield 10, 3), (102, .getfield 89, 3), (105, .iload_n 3, 1), (106, .iaload, 1), (107, .putfield 297, 3), (110, .aload 4, 2), (112, .aload_n 0, 1), (113, .getfield 10, 3), (116, .getfield 101, 3), (119, .iload_n 3, 1), (120, .iaload, 1), (121, .putfield 299, 3), (124, .goto 31, 3), (127, .iload_n 2, 1), (128, .iconst 2, 1), (129, .if_icmp .ne 20, 3), (132, .aload 4, 2), (134, .getfield 301, 3), (137, .aload_n 0, 1), (138, .getfield 42, 3), (141, .iload_n 3, 1), (142, .aaload, 1), (143, .invokevirtual 305, 3), (146, .goto 9, 3), (149, .aload 4, 2), (151, .iload_n 3, 1), (152, .putfield 308, 3), (155, .iload 5, 2)] : List (Nat × Jvm.ClassFile.Instr × Nat)), decode cX7_lay q.1 = .ok q.2 := chk_ok _ 75 _ rfl (by decide +kernel)
theorem dX7_lay_75 : decode cX7_lay 75 = .ok (.aaload, 1) := bdX7_lay_75 (75, .aaload, 1) (List.mem_of_getElem? (i := 0) rfl)
theorem dX7_lay_78 : decode cX7_lay 78 = .ok (.aload 4, 2) := bdX7_lay_75 (78, .aload 4, 2) (List.mem_of_getElem? (i := 1) rfl)
theorem dX7_lay_80 : decode cX7_lay 80 = .ok (.getfield 294, 3) := bdX7_lay_75 (80, .getfield 294, 3) (List.mem_of_getElem? (i := 2) rfl)
theorem dX7_lay_83 : decode cX7_lay 83 = .ok (.istore 5, 2) := bdX7_lay_75 (83, .istore 5, 2) (List.mem_of_getElem? (i := 3) rfl)
theorem dX7_lay_85 : decode cX7_lay 85 = .ok (.aload 4, 2) := bdX7_lay_75 (85, .aload 4, 2) (List.mem_of_getElem? (i := 4) rfl)
theorem dX7_lay_87 : decode cX7_lay 87 = .ok (.iload_n 2, 1) := bdX7_lay_75 (87, .iload_n 2, 1) (List.mem_of_getElem? (i := 5) rfl)
theorem dX7_lay_88 : decode cX7_lay 88 = .ok (.putfield 294, 3) := bdX7_lay_75 (88, .putfield 294, 3) (List.mem_of_getElem? (i := 6) rfl)
theorem dX7_lay_91 : decode cX7_lay 91 = .ok (.iload_n 2, 1) := bdX7_lay_75 (91, .iload_n 2, 1) (List.mem_of_getElem? (i := 7) rfl)
theorem dX7_lay_92 : decode cX7_lay 92 = .ok (.iconst 1, 1) := bdX7_lay_75 (92, .iconst 1, 1) (List.mem_of_getElem? (i := 8) rfl)
theorem dX7_lay_93 : decode cX7_lay 93 = .ok (.if_icmp .ne 34, 3) := bdX7_lay_75 (93, .if_icmp .ne 34, 3) (List.mem_of_getElem? (i := 9) rfl)
theorem dX7_lay_96 : decode cX7_lay 96 = .ok (.aload 4, 2) := bdX7_lay_75 (96, .aload 4, 2) (List.mem_of_getElem? (i := 10) rfl)
theorem dX7_lay_98 : decode cX7_lay 98 = .ok (.aload_n 0, 1) := bdX7_lay_75 (98, .aload_n 0, 1) (List.mem_of_getElem? (i := 11) rfl)
theorem dX7_lay_99 : decode cX7_lay 99 = .ok (.getfield 10, 3) := bdX7_lay_75 (99, .getfield 10, 3) (List.mem_of_getElem? (i := 12) rfl)
theorem dX7_lay_102 : decode cX7_lay 102 = .ok (.getfield 89, 3) := bdX7_lay_75 (102, .getfield 89, 3) (List.mem_of_getElem? (i := 13) rfl)
theorem dX7_lay_105 : decode cX7_lay 105 = .ok (.iload_n 3, 1) := bdX7_lay_75 (105, .iload_n 3, 1) (List.mem_of_getElem? (i := 14) rfl)
theorem dX7_lay_106 : decode cX7_lay 106 = .ok (.iaload, 1) := bdX7_lay_75 (106, .iaload, 1) (List.mem_of_getElem? (i := 15) rfl)
theorem dX7_lay_107 : decode cX7_lay 107 = .ok (.putfield 297, 3) := bdX7_lay_75 (107, .putfield 297, 3) (List.mem_of_getElem? (i := 16) rfl)
theorem dX7_lay_110 : decode cX7_lay 110 = .ok (.aload 4, 2) := bdX7_lay_75 (110, .aload 4, 2) (List.mem_of_getElem? (i := 17) rfl)
theorem dX7_lay_112 : decode cX7_lay 112 = .ok (.aload_n 0, 1) := bdX7_lay_75 (112, .aload_n 0, 1) (List.mem_of_getElem? (i := 18) rfl)
theorem dX7_lay_113 : decode cX7_lay 113 = .ok (.getfield 10, 3) := bdX7_lay_75 (113, .getfield 10, 3) (List.mem_of_getElem? (i := 19) rfl)
theorem dX7_lay_116 : decode cX7_lay 116 = .ok (.getfield 101, 3) := bdX7_lay_75 (116, .getfield 101, 3) (List.mem_of_getElem? (i := 20) rfl)
theorem dX7_lay_119 : decode cX7_lay 119 = .ok (.iload_n 3, 1) := bdX7_lay_75 (119, .iload_n 3, 1) (List.mem_of_getElem? (i := 21) rfl)
theorem dX7_lay_120 : decode cX7_lay 120 = .ok (.iaload, 1) := bdX7_lay_75 (120, .iaload, 1) (List.mem_of_getElem? (i := 22) rfl)
theorem dX7_lay_121 : decode cX7_lay 121 = .ok (.putfield 299, 3) := bdX7_lay_75 (121, .putfield 299, 3) (List.mem_of_getElem? (i := 23) rfl)
theorem dX7_lay_124 : decode cX7_lay 124 = .ok (.goto 31, 3) := bdX7_lay_75 (124, .goto 31, 3) (List.mem_of_getElem? (i := 24) rfl)
theorem dX7_lay_127 : decode cX7_lay 127 = .ok (.iload_n 2, 1) := bdX7_lay_75 (127, .iload_n 2, 1) (List.mem_of_getElem? (i := 25) rfl)
theorem dX7_lay_128 : decode cX7_lay 128 = .ok (.iconst 2, 1) := bdX7_lay_75 (128, .iconst 2, 1) (List.mem_of_getElem? (i := 26) rfl)
theorem dX7_lay_129 : decode cX7_lay 129 = .ok (.if_icmp .ne 20, 3) := bdX7_lay_75 (129, .if_icmp .ne 20, 3) (List.mem_of_getElem? (i := 27) rfl)
theorem dX7_lay_132 : decode cX7_lay 132 = .ok (.aload 4, 2) := bdX7_lay_75 (132, .aload 4, 2) (List.mem_of_getElem? (i := 28) rfl)
theorem dX7_lay_134 : decode cX7_lay 134 = .ok (.getfield 301, 3) := bdX7_lay_75 (134, .getfield 301, 3) (List.mem_of_getElem? (i := 29) rfl)
theorem dX7_lay_137 : decode cX7_lay 137 = .ok (.aload_n 0, 1) := bdX7_lay_75 (137, .aload_n 0, 1) (List.mem_of_getElem? (i := 30) rfl)
theorem dX7_lay_138 : decode cX7_lay 138 = .ok (.getfield 42, 3) := bdX7_lay_75 (138, .getfield 42, 3) (List.mem_of_getElem? (i := 31) rfl)
theorem dX7_lay_141 : decode cX7_lay 141 = .ok (.iload_n 3, 1) := bdX7_lay_75 (141, .iload_n 3, 1) (List.mem_of_getElem? (i := 32) rfl)
theorem dX7_lay_142 : decode cX7_lay 142 = .ok (.aaload, 1) := bdX7_lay_75 (142, .aaload, 1) (List.mem_of_getElem? (i := 33) rfl)
theorem dX7_lay_143 : decode cX7_lay 143 = .ok (.invokevirtual 305, 3) := bdX7_lay_75 (143, .invokevirtual 305, 3) (List.mem_of_getElem? (i := 34) rfl)
theorem dX7_lay_146 : decode cX7_lay 146 = .ok (.goto 9, 3) := bdX7_lay_75 (146, .goto 9, 3) (List.mem_of_getElem? (i := 35) rfl)
theorem dX7_lay_149 : decode cX7_lay 149 = .ok (.aload 4, 2) := bdX7_lay_75 (149, .aload 4, 2) (List.mem_of_getElem? (i := 36) rfl)
theorem dX7_lay_151 : decode cX7_lay 151 = .ok (.iload_n 3, 1) := bdX7_lay_75 (151, .iload_n 3, 1) (List.mem_of_getElem? (i := 37) rfl)
theorem dX7_lay_152 : decode cX7_lay 152 = .ok (.putfield 308, 3) := bdX7_lay_75 (152, .putfield 308, 3) (List.mem_of_getElem? (i := 38) rfl)
theorem dX7_lay_155 : decode cX7_lay 155 = .ok (.iload 5, 2) := bdX7_lay_75 (155, .iload 5, 2) (List.mem_of_getElem? (i := 39) rfl)
theorem bdX7_lay_157 : ∀ q ∈ ([(157, .ireturn, 1)] : List (Nat × Jvm.ClassFile.Instr × Nat)), decode cX7_lay q.1 = .ok q.2 := chk_ok _ 157 _ rfl (by decide +kernel)
theorem dX7_lay_157 : decode cX7_lay 157 = .ok (.ireturn, 1) := bdX7_lay_157 (157, .ireturn, 1) (List.mem_of_getElem? (i := 0) rfl)
theorem dX7_lay_76 : decode cX7_lay 76 = .ok (.astore 4, 2) := by decide +kernel
theorem fX7_48 : fldOK RX7 48 7 7 (.array (.object "LionShield$Slot")) true := ⟨_, _, _, tyX7, ⟨rfl, iX7, by decide, rfl, by decide⟩, tw_292, ⟨tyX7_ok, nmX7⟩, by decide +kernel, rfl, rfl⟩
theorem fX7_294 : fldOK RX7 294 5 0 .int false := ⟨_, _, _, tyX5, ⟨rfl, iX5, by decide, rfl, by decide⟩, tw_265, ⟨tyX5_ok, nmX5⟩, by decide +kernel, rfl, rfl⟩
theorem fX7_308 : fldOK RX7 308 5 3 .int false := ⟨_, _, _, tyX5, ⟨rfl, iX5, by decide, rfl, by decide⟩, tw_271, ⟨tyX5_ok, nmX5⟩, by decide +kernel, rfl, rfl⟩
theorem fX7_301 : fldOK RX7 301 5 4 (.object "LionShield$Row") true := ⟨_, _, _, tyX5, ⟨rfl, iX5, by decide, rfl, by decide⟩, tw_273, ⟨tyX5_ok, nmX5⟩, by decide +kernel, rfl, rfl⟩
theorem kX7_305 : mthV RX7 305 3 yX3_become prog_5_method_3_code 3 (Option.none : Option Jvm.ClassFile.FieldType) 1 := ⟨⟨⟨tw_886, tw_65, tw_889⟩, rfl, by decide +kernel⟩, tw_887, tw_888, rfl⟩
theorem fX7_297 : fldOK RX7 297 5 1 .int false := ⟨_, _, _, tyX5, ⟨rfl, iX5, by decide, rfl, by decide⟩, tw_267, ⟨tyX5_ok, nmX5⟩, by decide +kernel, rfl, rfl⟩
theorem fX7_299 : fldOK RX7 299 5 2 .int false := ⟨_, _, _, tyX5, ⟨rfl, iX5, by decide, rfl, by decide⟩, tw_269, ⟨tyX5_ok, nmX5⟩, by decide +kernel, rfl, rfl⟩
theorem kX7_291 : mthS RX7 291 yX7_isSlot prog_1_method_50_code 1 (Option.some Jvm.ClassFile.FieldType.boolean) 1 := ⟨⟨⟨tw_883, tw_60, tw_885⟩, rfl, by decide +kernel⟩, tw_884⟩
def BX7_lay_155 (ln : Nat → Nat) (post : Int32 → HC → Prop) (S : HC) (x5 : Int32) : Prop := post x5 S
def BX7_lay_70 (ln : Nat → Nat) (post : Int32 → HC → Prop) (S : HC) (x0 : Nat) (x1 : Int32) (x2 : Int32) (x3 : Int32) : Prop := dn_ (hR S x0 7) fun b1 => al_ (ln b1) x1 (hR S b1) fun o => dn_ o fun b2 => lt_ (hI S b2 0) fun z3 => lt_ (sI S b2 0 x2) fun S => if x2 = (1 : Int32) then (dn_ (hR S x0 0) fun b7 => dn_ (hR S b7 0) fun b8 => al_ (ln b8) x3 (hI S b8) fun z9 => lt_ (sI S b2 1 z9) fun S => dn_ (hR S x0 0) fun b10 => dn_ (hR S b10 4) fun b11 => al_ (ln b11) x3 (hI S b11) fun z12 => lt_ (sI S b2 2 z12) fun S => BX7_lay_155 ln post S z3) else (if x2 = (2 : Int32) then (dn_ (hR S b2 4) fun b4 => dn_ (hR S x0 6) fun b5 => al_ (ln b5) x3 (hR S b5) fun o => dn_ o fun b6 => wpX3_become ln S b4 b6 fun S => BX7_lay_155 ln post S z3) else (lt_ (sI S b2 3 x3) fun S => BX7_lay_155 ln post S z3))
def BX7_lay_50 (ln : Nat → Nat) (post : Int32 → HC → Prop) (S : HC) (x0 : Nat) (x1 : Int32) (x2 : Int32) (x3 : Int32) : Prop := if x2 = (2 : Int32) then (dn_ (hR S x0 6) fun b13 => al_ (ln b13) x3 (hR S b13) fun o => dn_ o fun b14 => wpX3_isMissing ln S b14 fun z15 S => if z15 = 0 then (BX7_lay_70 ln post S x0 x1 x2 x3) else (post (-1000000011 : Int32) S)) else (BX7_lay_70 ln post S x0 x1 x2 x3)
def BX7_lay_47 (ln : Nat → Nat) (post : Int32 → HC → Prop) (S : HC)  : Prop := post (-1000000001 : Int32) S
def BX7_lay_35 (ln : Nat → Nat) (post : Int32 → HC → Prop) (S : HC) (x0 : Nat) (x1 : Int32) (x2 : Int32) (x3 : Int32) : Prop := if x2 = (2 : Int32) then (wpX7_isSheet ln S x3 fun z16 S => if z16 = 0 then (BX7_lay_47 ln post S) else (BX7_lay_50 ln post S x0 x1 x2 x3)) else (BX7_lay_50 ln post S x0 x1 x2 x3)
def BX7_lay_16 (ln : Nat → Nat) (post : Int32 → HC → Prop) (S : HC)  : Prop := post (-1000000001 : Int32) S
def wpX7_lay (ln : Nat → Nat) (S : HC) (a0 : Nat) (a1 : Int32) (a2 : Int32) (a3 : Int32) (post : Int32 → HC → Prop) : Prop := wpX7_isSlot ln S a1 fun z17 S => if z17 = 0 then (BX7_lay_16 ln post S) else (if a2 < 0 then (BX7_lay_16 ln post S) else (if a2 ≤ (3 : Int32) then (if a2 = (1 : Int32) then (dn_ (hR S a0 0) fun b18 => wpX0_has ln S b18 a3 fun z19 S => if z19 = 0 then (BX7_lay_47 ln post S) else (BX7_lay_35 ln post S a0 a1 a2 a3)) else (BX7_lay_35 ln post S a0 a1 a2 a3)) else (BX7_lay_16 ln post S)))
abbrev rmX7_lay : Room := { frames := 1, cells := 0, slots := 0, locals := 22 }
set_option maxHeartbeats 4000000 in
set_option maxRecDepth 100000 in
theorem ctX7_lay {l : Launch} {g : GX} {N : Nat} {ln : Nat → Nat} {S : HC} {a0 : Nat} {a1 : Int32} {a2 : Int32} {a3 : Int32} {post : Int32 → HC → Prop} (hr_a0 : a0 < N) (hk_a0 : kd a0 = 7) (h : wpX7_lay ln S a0 a1 a2 a3 post) : Met l yX7_lay (Cond.code yX7_lay prog_1_method_34_code 6 (Option.some Jvm.ClassFile.FieldType.int) :: gtbl) rmX7_lay (va_Pc [.ref (gz g + a0), .int a1, .int a2, .int a3] (AtP g N ln S)) (QI g N ln post) 0 0 (gF g) := by
  refine m_of (by decide) (Nat.le_of_ble_eq_true rfl) ?_
  intro p e s m below meth c ls F hr I hl
  have hl : lv_has ls 6 [(0, .ref (gz g + a0)), (1, .int a1), (2, .int a2), (3, .int a3)] := hl
  unfold wpX7_lay at h
  have hj_155 : ∀ (S : HC) (H : Heap) (locs : List Loc) (ls : Array Slot) (x5 : Int32), BX7_lay_155 ln post S x5 → Inv g N ln S s H locs → lv_has ls 6 [(5, .int x5)] → W p l e rmX7_lay s m ([.ref (gz g + a0), .int a1, .int a2, .int a3] : List Value).toArray below meth c H locs 0 0 (MQ below (QI g N ln post) ([.ref (gz g + a0), .int a1, .int a2, .int a3] : List Value).toArray s 0 0 (gF g)) (F0 m 155 ls []) := by
    intro S H locs ls x5 h I hl
    unfold BX7_lay_155 at h
    refine lv_iload F.1 F.2.1 dX7_lay_155 (lv_at hl 0 rfl) ?_
    exact r_ireturn F I ⟨hr.1, hr.2.1, trivial⟩ h dX7_lay_157
  have hj_70 : ∀ (S : HC) (H : Heap) (locs : List Loc) (ls : Array Slot) (x0 : Nat) (x1 : Int32) (x2 : Int32) (x3 : Int32), x0 < N → kd x0 = 7 → BX7_lay_70 ln post S x0 x1 x2 x3 → Inv g N ln S s H locs → lv_has ls 6 [(0, .ref (gz g + x0)), (1, .int x1), (2, .int x2), (3, .int x3)] → W p l e rmX7_lay s m ([.ref (gz g + a0), .int a1, .int a2, .int a3] : List Value).toArray below meth c H locs 0 0 (MQ below (QI g N ln post) ([.ref (gz g + a0), .int a1, .int a2, .int a3] : List Value).toArray s 0 0 (gF g)) (F0 m 70 ls []) := by
    intro S H locs ls x0 x1 x2 x3 hr_x0 hk_x0 h I hl
    unfold BX7_lay_70 at h
    refine lv_aload_n F.1 F.2.1 dX7_lay_70 rfl (lv_at hl 0 rfl) ?_
    refine r_getN F I hr_x0 hk_x0 fX7_48 (f := 15) rfl (by decide) dX7_lay_71 h (fun b1 hr_b1 hk_b1 h => ?_)
    refine lv_iload_n F.1 F.2.1 dX7_lay_74 rfl (lv_at hl 1 rfl) ?_
    refine r_aldN F I hr_b1 hk_b1 (by decide) (f := 5) rfl dX7_lay_75 h (fun b2 hr_b2 hk_b2 h => ?_)
    refine lv_astore (lv' := [(4, .ref (gz g + b2)), (0, .ref (gz g + x0)), (1, .int x1), (2, .int x2), (3, .int x3)]) F.1 F.2.1 dX7_lay_76 hl (by decide) rfl (fun ls hl => ?_)
    refine lv_aload F.1 F.2.1 dX7_lay_78 (lv_at hl 0 rfl) ?_
    refine r_getI F I hr_b2 hk_b2 fX7_294 rfl dX7_lay_80 h (fun z3 h => ?_)
    refine lv_istore (lv' := [(5, .int z3), (4, .ref (gz g + b2)), (0, .ref (gz g + x0)), (1, .int x1), (2, .int x2), (3, .int x3)]) F.1 F.2.1 dX7_lay_83 hl (by decide) rfl (fun ls hl => ?_)
    refine lv_aload F.1 F.2.1 dX7_lay_85 (lv_at hl 1 rfl) ?_
    refine lv_iload_n F.1 F.2.1 dX7_lay_87 rfl (lv_at hl 4 rfl) ?_
    refine r_putI F I hr_b2 hk_b2 fX7_294 rfl (Or.inl rfl) ⟨rfl, rfl⟩ dX7_lay_88 h (fun S H locs I h => ?_)
    refine lv_iload_n F.1 F.2.1 dX7_lay_91 rfl (lv_at hl 4 rfl) ?_
    refine lv_iconst (v := 1) F.1 F.2.1 dX7_lay_92 (by decide) ?_
    refine r_icmp_ne (tgt := 127) F dX7_lay_93 (by decide) h (fun h => ?_) (fun h => ?_)
    · refine lv_iload_n F.1 F.2.1 dX7_lay_127 rfl (lv_at hl 4 rfl) ?_
      refine lv_iconst (v := 2) F.1 F.2.1 dX7_lay_128 (by decide) ?_
      refine r_icmp_ne (tgt := 149) F dX7_lay_129 (by decide) h (fun h => ?_) (fun h => ?_)
      · refine lv_aload F.1 F.2.1 dX7_lay_149 (lv_at hl 1 rfl) ?_
        refine lv_iload_n F.1 F.2.1 dX7_lay_151 rfl (lv_at hl 5 rfl) ?_
        refine r_putI F I hr_b2 hk_b2 fX7_308 rfl (Or.inl rfl) ⟨rfl, rfl⟩ dX7_lay_152 h (fun S H locs I h => ?_)
        exact hj_155 S _ _ _ z3  h I (lv_sub hl [0] rfl)
      · refine lv_aload F.1 F.2.1 dX7_lay_132 (lv_at hl 1 rfl) ?_
        refine r_getN F I hr_b2 hk_b2 fX7_301 (f := 3) rfl (by decide) dX7_lay_134 h (fun b4 hr_b4 hk_b4 h => ?_)
        refine lv_aload_n F.1 F.2.1 dX7_lay_137 rfl (lv_at hl 2 rfl) ?_
        refine r_getN F I hr_x0 hk_x0 fX7_42 (f := 14) rfl (by decide) dX7_lay_138 h (fun b5 hr_b5 hk_b5 h => ?_)
        refine lv_iload_n F.1 F.2.1 dX7_lay_141 rfl (lv_at hl 5 rfl) ?_
        refine r_aldN F I hr_b5 hk_b5 (by decide) (f := 3) rfl dX7_lay_142 h (fun b6 hr_b6 hk_b6 h => ?_)
        refine g_V I (run_V (As := [.ref (gz g + b6)]) (rest := []) F I hr_b4 hk_b4 (by decide) kX7_305 (ctX3_become hr_b4 hk_b4 hr_b6 hk_b6 h) ⟨rfl, rfl⟩ ⟨Nat.le_of_ble_eq_true rfl, Nat.le_of_ble_eq_true rfl⟩ rfl hl.1 rfl (Nat.le_of_ble_eq_true rfl) ⟨Nat.le_of_ble_eq_true rfl, Nat.le_of_ble_eq_true rfl⟩ dX7_lay_143) (fun S H locs I h => ?_)
        refine lv_goto (tgt := 155) F.1 F.2.1 dX7_lay_146 (by decide) ?_
        exact hj_155 S _ _ _ z3  h I (lv_sub hl [0] rfl)
    · refine lv_aload F.1 F.2.1 dX7_lay_96 (lv_at hl 1 rfl) ?_
      refine lv_aload_n F.1 F.2.1 dX7_lay_98 rfl (lv_at hl 2 rfl) ?_
      refine r_getN F I hr_x0 hk_x0 fX7_10 (f := 0) rfl (by decide) dX7_lay_99 h (fun b7 hr_b7 hk_b7 h => ?_)
      refine r_getN F I hr_b7 hk_b7 fX7_89 (f := 9) rfl (by decide) dX7_lay_102 h (fun b8 hr_b8 hk_b8 h => ?_)
      refine lv_iload_n F.1 F.2.1 dX7_lay_105 rfl (lv_at hl 5 rfl) ?_
      refine r_ald F I hr_b8 hk_b8 dX7_lay_106 h (fun z9 h => ?_)
      refine r_putI F I hr_b2 hk_b2 fX7_297 rfl (Or.inl rfl) ⟨rfl, rfl⟩ dX7_lay_107 h (fun S H locs I h => ?_)
      refine lv_aload F.1 F.2.1 dX7_lay_110 (lv_at hl 1 rfl) ?_
      refine lv_aload_n F.1 F.2.1 dX7_lay_112 rfl (lv_at hl 2 rfl) ?_
      refine r_getN F I hr_x0 hk_x0 fX7_10 (f := 0) rfl (by decide) dX7_lay_113 h (fun b10 hr_b10 hk_b10 h => ?_)
      refine r_getN F I hr_b10 hk_b10 fX7_101 (f := 9) rfl (by decide) dX7_lay_116 h (fun b11 hr_b11 hk_b11 h => ?_)
      refine lv_iload_n F.1 F.2.1 dX7_lay_119 rfl (lv_at hl 5 rfl) ?_
      refine r_ald F I hr_b11 hk_b11 dX7_lay_120 h (fun z12 h => ?_)
      refine r_putI F I hr_b2 hk_b2 fX7_299 rfl (Or.inl rfl) ⟨rfl, rfl⟩ dX7_lay_121 h (fun S H locs I h => ?_)
      refine lv_goto (tgt := 155) F.1 F.2.1 dX7_lay_124 (by decide) ?_
      exact hj_155 S _ _ _ z3  h I (lv_sub hl [0] rfl)
  have hj_50 : ∀ (S : HC) (H : Heap) (locs : List Loc) (ls : Array Slot) (x0 : Nat) (x1 : Int32) (x2 : Int32) (x3 : Int32), x0 < N → kd x0 = 7 → BX7_lay_50 ln post S x0 x1 x2 x3 → Inv g N ln S s H locs → lv_has ls 6 [(0, .ref (gz g + x0)), (1, .int x1), (2, .int x2), (3, .int x3)] → W p l e rmX7_lay s m ([.ref (gz g + a0), .int a1, .int a2, .int a3] : List Value).toArray below meth c H locs 0 0 (MQ below (QI g N ln post) ([.ref (gz g + a0), .int a1, .int a2, .int a3] : List Value).toArray s 0 0 (gF g)) (F0 m 50 ls []) := by
    intro S H locs ls x0 x1 x2 x3 hr_x0 hk_x0 h I hl
    unfold BX7_lay_50 at h
    refine lv_iload_n F.1 F.2.1 dX7_lay_50 rfl (lv_at hl 2 rfl) ?_
    refine lv_iconst (v := 2) F.1 F.2.1 dX7_lay_51 (by decide) ?_
    refine r_icmp_ne (tgt := 70) F dX7_lay_52 (by decide) h (fun h => ?_) (fun h => ?_)
    · exact hj_70 S _ _ _ x0 x1 x2 x3 hr_x0 hk_x0 h I (lv_sub hl [0, 1, 2, 3] rfl)
    · refine lv_aload_n F.1 F.2.1 dX7_lay_55 rfl (lv_at hl 0 rfl) ?_
      refine r_getN F I hr_x0 hk_x0 fX7_42 (f := 14) rfl (by decide) dX7_lay_56 h (fun b13 hr_b13 hk_b13 h => ?_)
      refine lv_iload_n F.1 F.2.1 dX7_lay_59 rfl (lv_at hl 3 rfl) ?_
      refine r_aldN F I hr_b13 hk_b13 (by decide) (f := 3) rfl dX7_lay_60 h (fun b14 hr_b14 hk_b14 h => ?_)
      refine g_I I (run_V (As := []) (rest := []) F I hr_b14 hk_b14 (by decide) kX7_203 (ctX3_isMissing hr_b14 hk_b14 h) ⟨rfl, rfl⟩ ⟨Nat.le_of_ble_eq_true rfl, Nat.le_of_ble_eq_true rfl⟩ rfl hl.1 rfl (Nat.le_of_ble_eq_true rfl) ⟨Nat.le_of_ble_eq_true rfl, Nat.le_of_ble_eq_true rfl⟩ dX7_lay_61) (fun z15 S H locs I h => ?_)
      refine r_if_eq (tgt := 70) F dX7_lay_64 (by decide) h (fun h => ?_) (fun h => ?_)
      · exact hj_70 S _ _ _ x0 x1 x2 x3 hr_x0 hk_x0 h I (lv_sub hl [0, 1, 2, 3] rfl)
      · refine lv_ldc F.1 F.2.1 F.2.2.2.1 (F.2.2.2.2 _ tw_593) dX7_lay_67 ?_
        exact r_ireturn F I ⟨hr.1, hr.2.1, trivial⟩ h dX7_lay_69
  have hj_47 : ∀ (S : HC) (H : Heap) (locs : List Loc) (ls : Array Slot), BX7_lay_47 ln post S  → Inv g N ln S s H locs → lv_has ls 6 [] → W p l e rmX7_lay s m ([.ref (gz g + a0), .int a1, .int a2, .int a3] : List Value).toArray below meth c H locs 0 0 (MQ below (QI g N ln post) ([.ref (gz g + a0), .int a1, .int a2, .int a3] : List Value).toArray s 0 0 (gF g)) (F0 m 47 ls []) := by
    intro S H locs ls h I hl
    unfold BX7_lay_47 at h
    refine lv_ldc F.1 F.2.1 F.2.2.2.1 (F.2.2.2.2 _ tw_334) dX7_lay_47 ?_
    exact r_ireturn F I ⟨hr.1, hr.2.1, trivial⟩ h dX7_lay_49
  have hj_35 : ∀ (S : HC) (H : Heap) (locs : List Loc) (ls : Array Slot) (x0 : Nat) (x1 : Int32) (x2 : Int32) (x3 : Int32), x0 < N → kd x0 = 7 → BX7_lay_35 ln post S x0 x1 x2 x3 → Inv g N ln S s H locs → lv_has ls 6 [(0, .ref (gz g + x0)), (1, .int x1), (2, .int x2), (3, .int x3)] → W p l e rmX7_lay s m ([.ref (gz g + a0), .int a1, .int a2, .int a3] : List Value).toArray below meth c H locs 0 0 (MQ below (QI g N ln post) ([.ref (gz g + a0), .int a1, .int a2, .int a3] : List Value).toArray s 0 0 (gF g)) (F0 m 35 ls []) := by
    intro S H locs ls x0 x1 x2 x3 hr_x0 hk_x0 h I hl
    unfold BX7_lay_35 at h
    refine lv_iload_n F.1 F.2.1 dX7_lay_35 rfl (lv_at hl 2 rfl) ?_
    refine lv_iconst (v := 2) F.1 F.2.1 dX7_lay_36 (by decide) ?_
    refine r_icmp_ne (tgt := 50) F dX7_lay_37 (by decide) h (fun h => ?_) (fun h => ?_)
    · exact hj_50 S _ _ _ x0 x1 x2 x3 hr_x0 hk_x0 h I (lv_sub hl [0, 1, 2, 3] rfl)
    · refine lv_iload_n F.1 F.2.1 dX7_lay_40 rfl (lv_at hl 3 rfl) ?_
      refine g_I I (run_S (As := [.int x3]) (rest := []) F I kX7_200 (ctX7_isSheet h) ⟨rfl, rfl⟩ ⟨Nat.le_of_ble_eq_true rfl, Nat.le_of_ble_eq_true rfl⟩ rfl hl.1 rfl (Nat.le_of_ble_eq_true rfl) ⟨Nat.le_of_ble_eq_true rfl, Nat.le_of_ble_eq_true rfl⟩ dX7_lay_41) (fun z16 S H locs I h => ?_)
      refine r_if_ne (tgt := 50) F dX7_lay_44 (by decide) h (fun h => ?_) (fun h => ?_)
      · exact hj_50 S _ _ _ x0 x1 x2 x3 hr_x0 hk_x0 h I (lv_sub hl [0, 1, 2, 3] rfl)
      · exact hj_47 S _ _ _   h I (lv_sub hl [] rfl)
  have hj_16 : ∀ (S : HC) (H : Heap) (locs : List Loc) (ls : Array Slot), BX7_lay_16 ln post S  → Inv g N ln S s H locs → lv_has ls 6 [] → W p l e rmX7_lay s m ([.ref (gz g + a0), .int a1, .int a2, .int a3] : List Value).toArray below meth c H locs 0 0 (MQ below (QI g N ln post) ([.ref (gz g + a0), .int a1, .int a2, .int a3] : List Value).toArray s 0 0 (gF g)) (F0 m 16 ls []) := by
    intro S H locs ls h I hl
    unfold BX7_lay_16 at h
    refine lv_ldc F.1 F.2.1 F.2.2.2.1 (F.2.2.2.2 _ tw_334) dX7_lay_16 ?_
    exact r_ireturn F I ⟨hr.1, hr.2.1, trivial⟩ h dX7_lay_18
  refine lv_iload_n F.1 F.2.1 dX7_lay_0 rfl (lv_at hl 1 rfl) ?_
  refine g_I I (run_S (As := [.int a1]) (rest := []) F I kX7_291 (ctX7_isSlot h) ⟨rfl, rfl⟩ ⟨Nat.le_of_ble_eq_true rfl, Nat.le_of_ble_eq_true rfl⟩ rfl hl.1 rfl (Nat.le_of_ble_eq_true rfl) ⟨Nat.le_of_ble_eq_true rfl, Nat.le_of_ble_eq_true rfl⟩ dX7_lay_1) (fun z17 S H locs I h => ?_)
  refine r_if_eq (tgt := 16) F dX7_lay_4 (by decide) h (fun h => ?_) (fun h => ?_)
  · exact hj_16 S _ _ _   h I (lv_sub hl [] rfl)
  · refine lv_iload_n F.1 F.2.1 dX7_lay_7 rfl (lv_at hl 2 rfl) ?_
    refine r_if_lt (tgt := 16) F dX7_lay_8 (by decide) h (fun h => ?_) (fun h => ?_)
    · exact hj_16 S _ _ _   h I (lv_sub hl [] rfl)
    · refine lv_iload_n F.1 F.2.1 dX7_lay_11 rfl (lv_at hl 2 rfl) ?_
      refine lv_iconst (v := 3) F.1 F.2.1 dX7_lay_12 (by decide) ?_
      refine r_icmp_le (tgt := 19) F dX7_lay_13 (by decide) h (fun h => ?_) (fun h => ?_)
      · refine lv_iload_n F.1 F.2.1 dX7_lay_19 rfl (lv_at hl 2 rfl) ?_
        refine lv_iconst (v := 1) F.1 F.2.1 dX7_lay_20 (by decide) ?_
        refine r_icmp_ne (tgt := 35) F dX7_lay_21 (by decide) h (fun h => ?_) (fun h => ?_)
        · exact hj_35 S _ _ _ a0 a1 a2 a3 hr_a0 hk_a0 h I (lv_sub hl [0, 1, 2, 3] rfl)
        · refine lv_aload_n F.1 F.2.1 dX7_lay_24 rfl (lv_at hl 0 rfl) ?_
          refine r_getN F I hr_a0 hk_a0 fX7_10 (f := 0) rfl (by decide) dX7_lay_25 h (fun b18 hr_b18 hk_b18 h => ?_)
          refine lv_iload_n F.1 F.2.1 dX7_lay_28 rfl (lv_at hl 3 rfl) ?_
          refine g_I I (run_V (As := [.int a3]) (rest := []) F I hr_b18 hk_b18 (by decide) kX7_86 (ctX0_has hr_b18 hk_b18 h) ⟨rfl, rfl⟩ ⟨Nat.le_of_ble_eq_true rfl, Nat.le_of_ble_eq_true rfl⟩ rfl hl.1 rfl (Nat.le_of_ble_eq_true rfl) ⟨Nat.le_of_ble_eq_true rfl, Nat.le_of_ble_eq_true rfl⟩ dX7_lay_29) (fun z19 S H locs I h => ?_)
          refine r_if_eq (tgt := 47) F dX7_lay_32 (by decide) h (fun h => ?_) (fun h => ?_)
          · exact hj_47 S _ _ _   h I (lv_sub hl [] rfl)
          · exact hj_35 S _ _ _ a0 a1 a2 a3 hr_a0 hk_a0 h I (lv_sub hl [0, 1, 2, 3] rfl)
      · exact hj_16 S _ _ _   h I (lv_sub hl [] rfl)
theorem bdX7_ask_0 : ∀ q ∈ ([(0, .iload_n 1, 1), (1, .invokestatic 291, 3), (4, .ifCond .eq 10, 3), (7, .iload_n 2, 1), (8, .invokestatic 65, 3), (11, .ifCond .ne 6, 3), (14, .ldc 73, 2), (16, .ireturn, 1), (17, .aload_n 0, 1), (18, .getfield 48, 3), (21, .iload_n 1, 1), (22, .aaload, 1), (23, .astore_n 3, 1), (24, .aload_n 3, 1), (25, .getfield 294, 3), (28, .ifCond .ne 6, 3), (31, .ldc 206, 2), (33, .ireturn, 1), (34, .aload_n 3, 1), (35, .getfield 294, 3), (38, .iconst 1, 1), (39, .if_icmp .ne 14, 3), (42, .aload_n 3, 1), (43, .getfield 297, 3), (46, .iload_n 2, 1), (47, .invokestatic 125, 3), (50, .ifCond .ne 6, 3), (53, .ldc 128, 2), (55, .ireturn, 1), (56, .aload_n 3, 1), (57, .getfield 297, 3), (60, .aload_n 3, 1), (61, .getfield 299, 3), (64, .invokestatic 110, 3), (67, .ireturn, 1)] : List (Nat × Jvm.ClassFile.Instr × Nat)), decode cX7_ask q.1 = .ok q.2 := chk_ok _ 0 _ rfl (by decide +kernel)
theorem dX7_ask_0 : decode cX7_ask 0 = .ok (.iload_n 1, 1) := bdX7_ask_0 (0, .iload_n 1, 1) (List.mem_of_getElem? (i := 0) rfl)
theorem dX7_ask_1 : decode cX7_ask 1 = .ok (.invokestatic 291, 3) := bdX7_ask_0 (1, .invokestatic 291, 3) (List.mem_of_getElem? (i := 1) rfl)
theorem dX7_ask_4 : decode cX7_ask 4 = .ok (.ifCond .eq 10, 3) := bdX7_ask_0 (4, .ifCond .eq 10, 3) (List.mem_of_getElem? (i := 2) rfl)
theorem dX7_ask_7 : decode cX7_ask 7 = .ok (.iload_n 2, 1) := bdX7_ask_0 (7, .iload_n 2, 1) (List.mem_of_getElem? (i := 3) rfl)
theorem dX7_ask_8 : decode cX7_ask 8 = .ok (.invokestatic 65, 3) := bdX7_ask_0 (8, .invokestatic 65, 3) (List.mem_of_getElem? (i := 4) rfl)
theorem dX7_ask_11 : decode cX7_ask 11 = .ok (.ifCond .ne 6, 3) := bdX7_ask_0 (11, .ifCond .ne 6, 3) (List.mem_of_getElem? (i := 5) rfl)
theorem dX7_ask_14 : decode cX7_ask 14 = .ok (.ldc 73, 2) := bdX7_ask_0 (14, .ldc 73, 2) (List.mem_of_getElem? (i := 6) rfl)
theorem dX7_ask_16 : decode cX7_ask 16 = .ok (.ireturn, 1) := bdX7_ask_0 (16, .ireturn, 1) (List.mem_of_getElem? (i := 7) rfl)
theorem dX7_ask_17 : decode cX7_ask 17 = .ok (.aload_n 0, 1) := bdX7_ask_0 (17, .aload_n 0, 1) (List.mem_of_getElem? (i := 8) rfl)
theorem dX7_ask_18 : decode cX7_ask 18 = .ok (.getfield 48, 3) := bdX7_ask_0 (18, .getfield 48, 3) (List.mem_of_getElem? (i := 9) rfl)
theorem dX7_ask_21 : decode cX7_ask 21 = .ok (.iload_n 1, 1) := bdX7_ask_0 (21, .iload_n 1, 1) (List.mem_of_getElem? (i := 10) rfl)
theorem dX7_ask_22 : decode cX7_ask 22 = .ok (.aaload, 1) := bdX7_ask_0 (22, .aaload, 1) (List.mem_of_getElem? (i := 11) rfl)
theorem dX7_ask_23 : decode cX7_ask 23 = .ok (.astore_n 3, 1) := bdX7_ask_0 (23, .astore_n 3, 1) (List.mem_of_getElem? (i := 12) rfl)
theorem dX7_ask_24 : decode cX7_ask 24 = .ok (.aload_n 3, 1) := bdX7_ask_0 (24, .aload_n 3, 1) (List.mem_of_getElem? (i := 13) rfl)
theorem dX7_ask_25 : decode cX7_ask 25 = .ok (.getfield 294, 3) := bdX7_ask_0 (25, .getfield 294, 3) (List.mem_of_getElem? (i := 14) rfl)
theorem dX7_ask_28 : decode cX7_ask 28 = .ok (.ifCond .ne 6, 3) := bdX7_ask_0 (28, .ifCond .ne 6, 3) (List.mem_of_getElem? (i := 15) rfl)
theorem dX7_ask_31 : decode cX7_ask 31 = .ok (.ldc 206, 2) := bdX7_ask_0 (31, .ldc 206, 2) (List.mem_of_getElem? (i := 16) rfl)
theorem dX7_ask_33 : decode cX7_ask 33 = .ok (.ireturn, 1) := bdX7_ask_0 (33, .ireturn, 1) (List.mem_of_getElem? (i := 17) rfl)
theorem dX7_ask_34 : decode cX7_ask 34 = .ok (.aload_n 3, 1) := bdX7_ask_0 (34, .aload_n 3, 1) (List.mem_of_getElem? (i := 18) rfl)
theorem dX7_ask_35 : decode cX7_ask 35 = .ok (.getfield 294, 3) := bdX7_ask_0 (35, .getfield 294, 3) (List.mem_of_getElem? (i := 19) rfl)
theorem dX7_ask_38 : decode cX7_ask 38 = .ok (.iconst 1, 1) := bdX7_ask_0 (38, .iconst 1, 1) (List.mem_of_getElem? (i := 20) rfl)
theorem dX7_ask_39 : decode cX7_ask 39 = .ok (.if_icmp .ne 14, 3) := bdX7_ask_0 (39, .if_icmp .ne 14, 3) (List.mem_of_getElem? (i := 21) rfl)
theorem dX7_ask_42 : decode cX7_ask 42 = .ok (.aload_n 3, 1) := bdX7_ask_0 (42, .aload_n 3, 1) (List.mem_of_getElem? (i := 22) rfl)
theorem dX7_ask_43 : decode cX7_ask 43 = .ok (.getfield 297, 3) := bdX7_ask_0 (43, .getfield 297, 3) (List.mem_of_getElem? (i := 23) rfl)
theorem dX7_ask_46 : decode cX7_ask 46 = .ok (.iload_n 2, 1) := bdX7_ask_0 (46, .iload_n 2, 1) (List.mem_of_getElem? (i := 24) rfl)
theorem dX7_ask_47 : decode cX7_ask 47 = .ok (.invokestatic 125, 3) := bdX7_ask_0 (47, .invokestatic 125, 3) (List.mem_of_getElem? (i := 25) rfl)
theorem dX7_ask_50 : decode cX7_ask 50 = .ok (.ifCond .ne 6, 3) := bdX7_ask_0 (50, .ifCond .ne 6, 3) (List.mem_of_getElem? (i := 26) rfl)
theorem dX7_ask_53 : decode cX7_ask 53 = .ok (.ldc 128, 2) := bdX7_ask_0 (53, .ldc 128, 2) (List.mem_of_getElem? (i := 27) rfl)
theorem dX7_ask_55 : decode cX7_ask 55 = .ok (.ireturn, 1) := bdX7_ask_0 (55, .ireturn, 1) (List.mem_of_getElem? (i := 28) rfl)
theorem dX7_ask_56 : decode cX7_ask 56 = .ok (.aload_n 3, 1) := bdX7_ask_0 (56, .aload_n 3, 1) (List.mem_of_getElem? (i := 29) rfl)
theorem dX7_ask_57 : decode cX7_ask 57 = .ok (.getfield 297, 3) := bdX7_ask_0 (57, .getfield 297, 3) (List.mem_of_getElem? (i := 30) rfl)
theorem dX7_ask_60 : decode cX7_ask 60 = .ok (.aload_n 3, 1) := bdX7_ask_0 (60, .aload_n 3, 1) (List.mem_of_getElem? (i := 31) rfl)
theorem dX7_ask_61 : decode cX7_ask 61 = .ok (.getfield 299, 3) := bdX7_ask_0 (61, .getfield 299, 3) (List.mem_of_getElem? (i := 32) rfl)
theorem dX7_ask_64 : decode cX7_ask 64 = .ok (.invokestatic 110, 3) := bdX7_ask_0 (64, .invokestatic 110, 3) (List.mem_of_getElem? (i := 33) rfl)
theorem dX7_ask_67 : decode cX7_ask 67 = .ok (.ireturn, 1) := bdX7_ask_0 (67, .ireturn, 1) (List.mem_of_getElem? (i := 34) rfl)
def BX7_ask_53 (ln : Nat → Nat) (post : Int32 → HC → Prop) (S : HC)  : Prop := post (-1000000012 : Int32) S
def BX7_ask_14 (ln : Nat → Nat) (post : Int32 → HC → Prop) (S : HC)  : Prop := post (-1000000001 : Int32) S
def wpX7_ask (ln : Nat → Nat) (S : HC) (a0 : Nat) (a1 : Int32) (a2 : Int32) (post : Int32 → HC → Prop) : Prop := wpX7_isSlot ln S a1 fun z1 S => if z1 = 0 then (BX7_ask_14 ln post S) else (wpX7_isKind ln S a2 fun z2 S => if z2 = 0 then (BX7_ask_14 ln post S) else (dn_ (hR S a0 7) fun b3 => al_ (ln b3) a1 (hR S b3) fun o => dn_ o fun b4 => lt_ (hI S b4 0) fun z5 => if z5 = 0 then (post (-1000000011 : Int32) S) else (lt_ (hI S b4 0) fun z6 => if z6 = (1 : Int32) then (lt_ (hI S b4 1) fun z7 => wpX7_isOfKind ln S z7 a2 fun z8 S => if z8 = 0 then (BX7_ask_53 ln post S) else (lt_ (hI S b4 1) fun z9 => lt_ (hI S b4 2) fun z10 => wpX7_worthOf ln S z9 z10 fun z11 S => post z11 S)) else (BX7_ask_53 ln post S))))
abbrev rmX7_ask : Room := { frames := 2, cells := 0, slots := 0, locals := 43 }
set_option maxHeartbeats 4000000 in
set_option maxRecDepth 100000 in
theorem ctX7_ask {l : Launch} {g : GX} {N : Nat} {ln : Nat → Nat} {S : HC} {a0 : Nat} {a1 : Int32} {a2 : Int32} {post : Int32 → HC → Prop} (hr_a0 : a0 < N) (hk_a0 : kd a0 = 7) (h : wpX7_ask ln S a0 a1 a2 post) : Met l yX7_ask (Cond.code yX7_ask prog_1_method_35_code 4 (Option.some Jvm.ClassFile.FieldType.int) :: gtbl) rmX7_ask (va_Pc [.ref (gz g + a0), .int a1, .int a2] (AtP g N ln S)) (QI g N ln post) 0 0 (gF g) := by
  refine m_of (by decide) (Nat.le_of_ble_eq_true rfl) ?_
  intro p e s m below meth c ls F hr I hl
  have hl : lv_has ls 4 [(0, .ref (gz g + a0)), (1, .int a1), (2, .int a2)] := hl
  unfold wpX7_ask at h
  have hj_53 : ∀ (S : HC) (H : Heap) (locs : List Loc) (ls : Array Slot), BX7_ask_53 ln post S  → Inv g N ln S s H locs → lv_has ls 4 [] → W p l e rmX7_ask s m ([.ref (gz g + a0), .int a1, .int a2] : List Value).toArray below meth c H locs 0 0 (MQ below (QI g N ln post) ([.ref (gz g + a0), .int a1, .int a2] : List Value).toArray s 0 0 (gF g)) (F0 m 53 ls []) := by
    intro S H locs ls h I hl
    unfold BX7_ask_53 at h
    refine lv_ldc F.1 F.2.1 F.2.2.2.1 (F.2.2.2.2 _ tw_438) dX7_ask_53 ?_
    exact r_ireturn F I ⟨hr.1, hr.2.1, trivial⟩ h dX7_ask_55
  have hj_14 : ∀ (S : HC) (H : Heap) (locs : List Loc) (ls : Array Slot), BX7_ask_14 ln post S  → Inv g N ln S s H locs → lv_has ls 4 [] → W p l e rmX7_ask s m ([.ref (gz g + a0), .int a1, .int a2] : List Value).toArray below meth c H locs 0 0 (MQ below (QI g N ln post) ([.ref (gz g + a0), .int a1, .int a2] : List Value).toArray s 0 0 (gF g)) (F0 m 14 ls []) := by
    intro S H locs ls h I hl
    unfold BX7_ask_14 at h
    refine lv_ldc F.1 F.2.1 F.2.2.2.1 (F.2.2.2.2 _ tw_334) dX7_ask_14 ?_
    exact r_ireturn F I ⟨hr.1, hr.2.1, trivial⟩ h dX7_ask_16
  refine lv_iload_n F.1 F.2.1 dX7_ask_0 rfl (lv_at hl 1 rfl) ?_
  refine g_I I (run_S (As := [.int a1]) (rest := []) F I kX7_291 (ctX7_isSlot h) ⟨rfl, rfl⟩ ⟨Nat.le_of_ble_eq_true rfl, Nat.le_of_ble_eq_true rfl⟩ rfl hl.1 rfl (Nat.le_of_ble_eq_true rfl) ⟨Nat.le_of_ble_eq_true rfl, Nat.le_of_ble_eq_true rfl⟩ dX7_ask_1) (fun z1 S H locs I h => ?_)
  refine r_if_eq (tgt := 14) F dX7_ask_4 (by decide) h (fun h => ?_) (fun h => ?_)
  · exact hj_14 S _ _ _   h I (lv_sub hl [] rfl)
  · refine lv_iload_n F.1 F.2.1 dX7_ask_7 rfl (lv_at hl 2 rfl) ?_
    refine g_I I (run_S (As := [.int a2]) (rest := []) F I kX7_65 (ctX7_isKind h) ⟨rfl, rfl⟩ ⟨Nat.le_of_ble_eq_true rfl, Nat.le_of_ble_eq_true rfl⟩ rfl hl.1 rfl (Nat.le_of_ble_eq_true rfl) ⟨Nat.le_of_ble_eq_true rfl, Nat.le_of_ble_eq_true rfl⟩ dX7_ask_8) (fun z2 S H locs I h => ?_)
    refine r_if_ne (tgt := 17) F dX7_ask_11 (by decide) h (fun h => ?_) (fun h => ?_)
    · refine lv_aload_n F.1 F.2.1 dX7_ask_17 rfl (lv_at hl 0 rfl) ?_
      refine r_getN F I hr_a0 hk_a0 fX7_48 (f := 15) rfl (by decide) dX7_ask_18 h (fun b3 hr_b3 hk_b3 h => ?_)
      refine lv_iload_n F.1 F.2.1 dX7_ask_21 rfl (lv_at hl 1 rfl) ?_
      refine r_aldN F I hr_b3 hk_b3 (by decide) (f := 5) rfl dX7_ask_22 h (fun b4 hr_b4 hk_b4 h => ?_)
      refine lv_astore_n (lv' := [(3, .ref (gz g + b4)), (0, .ref (gz g + a0)), (1, .int a1), (2, .int a2)]) F.1 F.2.1 dX7_ask_23 rfl hl (by decide) rfl (fun ls hl => ?_)
      refine lv_aload_n F.1 F.2.1 dX7_ask_24 rfl (lv_at hl 0 rfl) ?_
      refine r_getI F I hr_b4 hk_b4 fX7_294 rfl dX7_ask_25 h (fun z5 h => ?_)
      refine r_if_ne (tgt := 34) F dX7_ask_28 (by decide) h (fun h => ?_) (fun h => ?_)
      · refine lv_aload_n F.1 F.2.1 dX7_ask_34 rfl (lv_at hl 0 rfl) ?_
        refine r_getI F I hr_b4 hk_b4 fX7_294 rfl dX7_ask_35 h (fun z6 h => ?_)
        refine lv_iconst (v := 1) F.1 F.2.1 dX7_ask_38 (by decide) ?_
        refine r_icmp_ne (tgt := 53) F dX7_ask_39 (by decide) h (fun h => ?_) (fun h => ?_)
        · exact hj_53 S _ _ _   h I (lv_sub hl [] rfl)
        · refine lv_aload_n F.1 F.2.1 dX7_ask_42 rfl (lv_at hl 0 rfl) ?_
          refine r_getI F I hr_b4 hk_b4 fX7_297 rfl dX7_ask_43 h (fun z7 h => ?_)
          refine lv_iload_n F.1 F.2.1 dX7_ask_46 rfl (lv_at hl 3 rfl) ?_
          refine g_I I (run_S (As := [.int z7, .int a2]) (rest := []) F I kX7_125 (ctX7_isOfKind h) ⟨rfl, rfl⟩ ⟨Nat.le_of_ble_eq_true rfl, Nat.le_of_ble_eq_true rfl⟩ rfl hl.1 rfl (Nat.le_of_ble_eq_true rfl) ⟨Nat.le_of_ble_eq_true rfl, Nat.le_of_ble_eq_true rfl⟩ dX7_ask_47) (fun z8 S H locs I h => ?_)
          refine r_if_ne (tgt := 56) F dX7_ask_50 (by decide) h (fun h => ?_) (fun h => ?_)
          · refine lv_aload_n F.1 F.2.1 dX7_ask_56 rfl (lv_at hl 0 rfl) ?_
            refine r_getI F I hr_b4 hk_b4 fX7_297 rfl dX7_ask_57 h (fun z9 h => ?_)
            refine lv_aload_n F.1 F.2.1 dX7_ask_60 rfl (lv_at hl 0 rfl) ?_
            refine r_getI F I hr_b4 hk_b4 fX7_299 rfl dX7_ask_61 h (fun z10 h => ?_)
            refine g_I I (run_S (As := [.int z9, .int z10]) (rest := []) F I kX7_110 (ctX7_worthOf h) ⟨rfl, rfl⟩ ⟨Nat.le_of_ble_eq_true rfl, Nat.le_of_ble_eq_true rfl⟩ rfl hl.1 rfl (Nat.le_of_ble_eq_true rfl) ⟨Nat.le_of_ble_eq_true rfl, Nat.le_of_ble_eq_true rfl⟩ dX7_ask_64) (fun z11 S H locs I h => ?_)
            exact r_ireturn F I ⟨hr.1, hr.2.1, trivial⟩ h dX7_ask_67
          · exact hj_53 S _ _ _   h I (lv_sub hl [] rfl)
      · refine lv_ldc F.1 F.2.1 F.2.2.2.1 (F.2.2.2.2 _ tw_593) dX7_ask_31 ?_
        exact r_ireturn F I ⟨hr.1, hr.2.1, trivial⟩ h dX7_ask_33
    · exact hj_14 S _ _ _   h I (lv_sub hl [] rfl)
theorem bdX7_item_0 : ∀ q ∈ ([(0, .iload_n 1, 1), (1, .invokestatic 291, 3), (4, .ifCond .ne 6, 3), (7, .ldc 73, 2), (9, .ireturn, 1), (10, .aload_n 0, 1), (11, .getfield 48, 3), (14, .iload_n 1, 1), (15, .aaload, 1), (16, .astore_n 3, 1), (17, .aload_n 3, 1), (18, .getfield 294, 3), (21, .ifCond .ne 6, 3), (24, .ldc 206, 2), (26, .ireturn, 1), (27, .aload_n 3, 1), (28, .getfield 294, 3), (31, .iconst 2, 1), (32, .if_icmp .eq 6, 3), (35, .ldc 128, 2), (37, .ireturn, 1), (38, .aload_n 3, 1), (39, .getfield 301, 3), (42, .iload_n 2, 1), (43, .invokevirtual 263, 3), (46, .ifCond .ne 7, 3), (49, .ldc_w 266, 3), (52, .ireturn, 1), (53, .aload_n 3, 1), (54, .getfield 301, 3), (57, .iload_n 2, 1), (58, .invokevirtual 275, 3), (61, .ifCond .eq 15, 3), (64, .aload_n 3, 1), (65, .getfield 301, 3), (68, .getfield 270, 3), (71, .iload_n 2, 1), (72, .iaload, 1), (73, .goto 5, 3), (76, .ldc 128, 2)] : List (Nat × Jvm.ClassFile.Instr × Nat)), decode cX7_item q.1 = .ok q.2 := chk_ok _ 0 _ rfl (by decide +kernel)
theorem dX7_item_0 : decode cX7_item 0 = .ok (.iload_n 1, 1) := bdX7_item_0 (0, .iload_n 1, 1) (List.mem_of_getElem? (i := 0) rfl)
theorem dX7_item_1 : decode cX7_item 1 = .ok (.invokestatic 291, 3) := bdX7_item_0 (1, .invokestatic 291, 3) (List.mem_of_getElem? (i := 1) rfl)
theorem dX7_item_4 : decode cX7_item 4 = .ok (.ifCond .ne 6, 3) := bdX7_item_0 (4, .ifCond .ne 6, 3) (List.mem_of_getElem? (i := 2) rfl)
theorem dX7_item_7 : decode cX7_item 7 = .ok (.ldc 73, 2) := bdX7_item_0 (7, .ldc 73, 2) (List.mem_of_getElem? (i := 3) rfl)
theorem dX7_item_9 : decode cX7_item 9 = .ok (.ireturn, 1) := bdX7_item_0 (9, .ireturn, 1) (List.mem_of_getElem? (i := 4) rfl)
theorem dX7_item_10 : decode cX7_item 10 = .ok (.aload_n 0, 1) := bdX7_item_0 (10, .aload_n 0, 1) (List.mem_of_getElem? (i := 5) rfl)
theorem dX7_item_11 : decode cX7_item 11 = .ok (.getfield 48, 3) := bdX7_item_0 (11, .getfield 48, 3) (List.mem_of_getElem? (i := 6) rfl)
theorem dX7_item_14 : decode cX7_item 14 = .ok (.iload_n 1, 1) := bdX7_item_0 (14, .iload_n 1, 1) (List.mem_of_getElem? (i := 7) rfl)
theorem dX7_item_15 : decode cX7_item 15 = .ok (.aaload, 1) := bdX7_item_0 (15, .aaload, 1) (List.mem_of_getElem? (i := 8) rfl)
theorem dX7_item_16 : decode cX7_item 16 = .ok (.astore_n 3, 1) := bdX7_item_0 (16, .astore_n 3, 1) (List.mem_of_getElem? (i := 9) rfl)
theorem dX7_item_17 : decode cX7_item 17 = .ok (.aload_n 3, 1) := bdX7_item_0 (17, .aload_n 3, 1) (List.mem_of_getElem? (i := 10) rfl)
theorem dX7_item_18 : decode cX7_item 18 = .ok (.getfield 294, 3) := bdX7_item_0 (18, .getfield 294, 3) (List.mem_of_getElem? (i := 11) rfl)
theorem dX7_item_21 : decode cX7_item 21 = .ok (.ifCond .ne 6, 3) := bdX7_item_0 (21, .ifCond .ne 6, 3) (List.mem_of_getElem? (i := 12) rfl)
theorem dX7_item_24 : decode cX7_item 24 = .ok (.ldc 206, 2) := bdX7_item_0 (24, .ldc 206, 2) (List.mem_of_getElem? (i := 13) rfl)
theorem dX7_item_26 : decode cX7_item 26 = .ok (.ireturn, 1) := bdX7_item_0 (26, .ireturn, 1) (List.mem_of_getElem? (i := 14) rfl)
theorem dX7_item_27 : decode cX7_item 27 = .ok (.aload_n 3, 1) := bdX7_item_0 (27, .aload_n 3, 1) (List.mem_of_getElem? (i := 15) rfl)
theorem dX7_item_28 : decode cX7_item 28 = .ok (.getfield 294, 3) := bdX7_item_0 (28, .getfield 294, 3) (List.mem_of_getElem? (i := 16) rfl)
theorem dX7_item_31 : decode cX7_item 31 = .ok (.iconst 2, 1) := bdX7_item_0 (31, .iconst 2, 1) (List.mem_of_getElem? (i := 17) rfl)
theorem dX7_item_32 : decode cX7_item 32 = .ok (.if_icmp .eq 6, 3) := bdX7_item_0 (32, .if_icmp .eq 6, 3) (List.mem_of_getElem? (i := 18) rfl)
theorem dX7_item_35 : decode cX7_item 35 = .ok (.ldc 128, 2) := bdX7_item_0 (35, .ldc 128, 2) (List.mem_of_getElem? (i := 19) rfl)
theorem dX7_item_37 : decode cX7_item 37 = .ok (.ireturn, 1) := bdX7_item_0 (37, .ireturn, 1) (List.mem_of_getElem? (i := 20) rfl)
theorem dX7_item_38 : decode cX7_item 38 = .ok (.aload_n 3, 1) := bdX7_item_0 (38, .aload_n 3, 1) (List.mem_of_getElem? (i := 21) rfl)
theorem dX7_item_39 : decode cX7_item 39 = .ok (.getfield 301, 3) := bdX7_item_0 (39, .getfield 301, 3) (List.mem_of_getElem? (i := 22) rfl)
theorem dX7_item_42 : decode cX7_item 42 = .ok (.iload_n 2, 1) := bdX7_item_0 (42, .iload_n 2, 1) (List.mem_of_getElem? (i := 23) rfl)
theorem dX7_item_43 : decode cX7_item 43 = .ok (.invokevirtual 263, 3) := bdX7_item_0 (43, .invokevirtual 263, 3) (List.mem_of_getElem? (i := 24) rfl)
theorem dX7_item_46 : decode cX7_item 46 = .ok (.ifCond .ne 7, 3) := bdX7_item_0 (46, .ifCond .ne 7, 3) (List.mem_of_getElem? (i := 25) rfl)
theorem dX7_item_49 : decode cX7_item 49 = .ok (.ldc_w 266, 3) := bdX7_item_0 (49, .ldc_w 266, 3) (List.mem_of_getElem? (i := 26) rfl)
theorem dX7_item_52 : decode cX7_item 52 = .ok (.ireturn, 1) := bdX7_item_0 (52, .ireturn, 1) (List.mem_of_getElem? (i := 27) rfl)
theorem dX7_item_53 : decode cX7_item 53 = .ok (.aload_n 3, 1) := bdX7_item_0 (53, .aload_n 3, 1) (List.mem_of_getElem? (i := 28) rfl)
theorem dX7_item_54 : decode cX7_item 54 = .ok (.getfield 301, 3) := bdX7_item_0 (54, .getfield 301, 3) (List.mem_of_getElem? (i := 29) rfl)
theorem dX7_item_57 : decode cX7_item 57 = .ok (.iload_n 2, 1) := bdX7_item_0 (57, .iload_n 2, 1) (List.mem_of_getElem? (i := 30) rfl)
theorem dX7_item_58 : decode cX7_item 58 = .ok (.invokevirtual 275, 3) := bdX7_item_0 (58, .invokevirtual 275, 3) (List.mem_of_getElem? (i := 31) rfl)
theorem dX7_item_61 : decode cX7_item 61 = .ok (.ifCond .eq 15, 3) := bdX7_item_0 (61, .ifCond .eq 15, 3) (List.mem_of_getElem? (i := 32) rfl)
theorem dX7_item_64 : decode cX7_item 64 = .ok (.aload_n 3, 1) := bdX7_item_0 (64, .aload_n 3, 1) (List.mem_of_getElem? (i := 33) rfl)
theorem dX7_item_65 : decode cX7_item 65 = .ok (.getfield 301, 3) := bdX7_item_0 (65, .getfield 301, 3) (List.mem_of_getElem? (i := 34) rfl)
theorem dX7_item_68 : decode cX7_item 68 = .ok (.getfield 270, 3) := bdX7_item_0 (68, .getfield 270, 3) (List.mem_of_getElem? (i := 35) rfl)
theorem dX7_item_71 : decode cX7_item 71 = .ok (.iload_n 2, 1) := bdX7_item_0 (71, .iload_n 2, 1) (List.mem_of_getElem? (i := 36) rfl)
theorem dX7_item_72 : decode cX7_item 72 = .ok (.iaload, 1) := bdX7_item_0 (72, .iaload, 1) (List.mem_of_getElem? (i := 37) rfl)
theorem dX7_item_73 : decode cX7_item 73 = .ok (.goto 5, 3) := bdX7_item_0 (73, .goto 5, 3) (List.mem_of_getElem? (i := 38) rfl)
theorem dX7_item_76 : decode cX7_item 76 = .ok (.ldc 128, 2) := bdX7_item_0 (76, .ldc 128, 2) (List.mem_of_getElem? (i := 39) rfl)
theorem bdX7_item_78 : ∀ q ∈ ([(78, .ireturn, 1)] : List (Nat × Jvm.ClassFile.Instr × Nat)), decode cX7_item q.1 = .ok q.2 := chk_ok _ 78 _ rfl (by decide +kernel)
theorem dX7_item_78 : decode cX7_item 78 = .ok (.ireturn, 1) := bdX7_item_78 (78, .ireturn, 1) (List.mem_of_getElem? (i := 0) rfl)
def wpX7_item (ln : Nat → Nat) (S : HC) (a0 : Nat) (a1 : Int32) (a2 : Int32) (post : Int32 → HC → Prop) : Prop := wpX7_isSlot ln S a1 fun z1 S => if z1 = 0 then (post (-1000000001 : Int32) S) else (dn_ (hR S a0 7) fun b2 => al_ (ln b2) a1 (hR S b2) fun o => dn_ o fun b3 => lt_ (hI S b3 0) fun z4 => if z4 = 0 then (post (-1000000011 : Int32) S) else (lt_ (hI S b3 0) fun z5 => if z5 = (2 : Int32) then (dn_ (hR S b3 4) fun b6 => wpX3_hasPlace ln S b6 a2 fun z7 S => if z7 = 0 then (post (-1000000013 : Int32) S) else (dn_ (hR S b3 4) fun b8 => wpX3_isNumber ln S b8 a2 fun z9 S => if z9 = 0 then (post (-1000000012 : Int32) S) else (dn_ (hR S b3 4) fun b10 => dn_ (hR S b10 2) fun b11 => al_ (ln b11) a2 (hI S b11) fun z12 => post z12 S))) else (post (-1000000012 : Int32) S)))
abbrev rmX7_item : Room := { frames := 2, cells := 0, slots := 0, locals := 42 }
set_option maxHeartbeats 4000000 in
set_option maxRecDepth 100000 in
theorem ctX7_item {l : Launch} {g : GX} {N : Nat} {ln : Nat → Nat} {S : HC} {a0 : Nat} {a1 : Int32} {a2 : Int32} {post : Int32 → HC → Prop} (hr_a0 : a0 < N) (hk_a0 : kd a0 = 7) (h : wpX7_item ln S a0 a1 a2 post) : Met l yX7_item (Cond.code yX7_item prog_1_method_36_code 4 (Option.some Jvm.ClassFile.FieldType.int) :: gtbl) rmX7_item (va_Pc [.ref (gz g + a0), .int a1, .int a2] (AtP g N ln S)) (QI g N ln post) 0 0 (gF g) := by
  refine m_of (by decide) (Nat.le_of_ble_eq_true rfl) ?_
  intro p e s m below meth c ls F hr I hl
  have hl : lv_has ls 4 [(0, .ref (gz g + a0)), (1, .int a1), (2, .int a2)] := hl
  unfold wpX7_item at h
  refine lv_iload_n F.1 F.2.1 dX7_item_0 rfl (lv_at hl 1 rfl) ?_
  refine g_I I (run_S (As := [.int a1]) (rest := []) F I kX7_291 (ctX7_isSlot h) ⟨rfl, rfl⟩ ⟨Nat.le_of_ble_eq_true rfl, Nat.le_of_ble_eq_true rfl⟩ rfl hl.1 rfl (Nat.le_of_ble_eq_true rfl) ⟨Nat.le_of_ble_eq_true rfl, Nat.le_of_ble_eq_true rfl⟩ dX7_item_1) (fun z1 S H locs I h => ?_)
  refine r_if_ne (tgt := 10) F dX7_item_4 (by decide) h (fun h => ?_) (fun h => ?_)
  · refine lv_aload_n F.1 F.2.1 dX7_item_10 rfl (lv_at hl 0 rfl) ?_
    refine r_getN F I hr_a0 hk_a0 fX7_48 (f := 15) rfl (by decide) dX7_item_11 h (fun b2 hr_b2 hk_b2 h => ?_)
    refine lv_iload_n F.1 F.2.1 dX7_item_14 rfl (lv_at hl 1 rfl) ?_
    refine r_aldN F I hr_b2 hk_b2 (by decide) (f := 5) rfl dX7_item_15 h (fun b3 hr_b3 hk_b3 h => ?_)
    refine lv_astore_n (lv' := [(3, .ref (gz g + b3)), (0, .ref (gz g + a0)), (1, .int a1), (2, .int a2)]) F.1 F.2.1 dX7_item_16 rfl hl (by decide) rfl (fun ls hl => ?_)
    refine lv_aload_n F.1 F.2.1 dX7_item_17 rfl (lv_at hl 0 rfl) ?_
    refine r_getI F I hr_b3 hk_b3 fX7_294 rfl dX7_item_18 h (fun z4 h => ?_)
    refine r_if_ne (tgt := 27) F dX7_item_21 (by decide) h (fun h => ?_) (fun h => ?_)
    · refine lv_aload_n F.1 F.2.1 dX7_item_27 rfl (lv_at hl 0 rfl) ?_
      refine r_getI F I hr_b3 hk_b3 fX7_294 rfl dX7_item_28 h (fun z5 h => ?_)
      refine lv_iconst (v := 2) F.1 F.2.1 dX7_item_31 (by decide) ?_
      refine r_icmp_eq (tgt := 38) F dX7_item_32 (by decide) h (fun h => ?_) (fun h => ?_)
      · refine lv_aload_n F.1 F.2.1 dX7_item_38 rfl (lv_at hl 0 rfl) ?_
        refine r_getN F I hr_b3 hk_b3 fX7_301 (f := 3) rfl (by decide) dX7_item_39 h (fun b6 hr_b6 hk_b6 h => ?_)
        refine lv_iload_n F.1 F.2.1 dX7_item_42 rfl (lv_at hl 3 rfl) ?_
        refine g_I I (run_V (As := [.int a2]) (rest := []) F I hr_b6 hk_b6 (by decide) kX7_263 (ctX3_hasPlace hr_b6 hk_b6 h) ⟨rfl, rfl⟩ ⟨Nat.le_of_ble_eq_true rfl, Nat.le_of_ble_eq_true rfl⟩ rfl hl.1 rfl (Nat.le_of_ble_eq_true rfl) ⟨Nat.le_of_ble_eq_true rfl, Nat.le_of_ble_eq_true rfl⟩ dX7_item_43) (fun z7 S H locs I h => ?_)
        refine r_if_ne (tgt := 53) F dX7_item_46 (by decide) h (fun h => ?_) (fun h => ?_)
        · refine lv_aload_n F.1 F.2.1 dX7_item_53 rfl (lv_at hl 0 rfl) ?_
          refine r_getN F I hr_b3 hk_b3 fX7_301 (f := 3) rfl (by decide) dX7_item_54 h (fun b8 hr_b8 hk_b8 h => ?_)
          refine lv_iload_n F.1 F.2.1 dX7_item_57 rfl (lv_at hl 3 rfl) ?_
          refine g_I I (run_V (As := [.int a2]) (rest := []) F I hr_b8 hk_b8 (by decide) kX7_275 (ctX3_isNumber hr_b8 hk_b8 h) ⟨rfl, rfl⟩ ⟨Nat.le_of_ble_eq_true rfl, Nat.le_of_ble_eq_true rfl⟩ rfl hl.1 rfl (Nat.le_of_ble_eq_true rfl) ⟨Nat.le_of_ble_eq_true rfl, Nat.le_of_ble_eq_true rfl⟩ dX7_item_58) (fun z9 S H locs I h => ?_)
          refine r_if_eq (tgt := 76) F dX7_item_61 (by decide) h (fun h => ?_) (fun h => ?_)
          · refine lv_ldc F.1 F.2.1 F.2.2.2.1 (F.2.2.2.2 _ tw_438) dX7_item_76 ?_
            exact r_ireturn F I ⟨hr.1, hr.2.1, trivial⟩ h dX7_item_78
          · refine lv_aload_n F.1 F.2.1 dX7_item_64 rfl (lv_at hl 0 rfl) ?_
            refine r_getN F I hr_b3 hk_b3 fX7_301 (f := 3) rfl (by decide) dX7_item_65 h (fun b10 hr_b10 hk_b10 h => ?_)
            refine r_getN F I hr_b10 hk_b10 fX7_270 (f := 9) rfl (by decide) dX7_item_68 h (fun b11 hr_b11 hk_b11 h => ?_)
            refine lv_iload_n F.1 F.2.1 dX7_item_71 rfl (lv_at hl 3 rfl) ?_
            refine r_ald F I hr_b11 hk_b11 dX7_item_72 h (fun z12 h => ?_)
            refine lv_goto (tgt := 78) F.1 F.2.1 dX7_item_73 (by decide) ?_
            exact r_ireturn F I ⟨hr.1, hr.2.1, trivial⟩ h dX7_item_78
        · refine lv_ldcw F.1 F.2.1 F.2.2.2.1 (F.2.2.2.2 _ tw_855) dX7_item_49 ?_
          exact r_ireturn F I ⟨hr.1, hr.2.1, trivial⟩ h dX7_item_52
      · refine lv_ldc F.1 F.2.1 F.2.2.2.1 (F.2.2.2.2 _ tw_438) dX7_item_35 ?_
        exact r_ireturn F I ⟨hr.1, hr.2.1, trivial⟩ h dX7_item_37
    · refine lv_ldc F.1 F.2.1 F.2.2.2.1 (F.2.2.2.2 _ tw_593) dX7_item_24 ?_
      exact r_ireturn F I ⟨hr.1, hr.2.1, trivial⟩ h dX7_item_26
  · refine lv_ldc F.1 F.2.1 F.2.2.2.1 (F.2.2.2.2 _ tw_334) dX7_item_7 ?_
    exact r_ireturn F I ⟨hr.1, hr.2.1, trivial⟩ h dX7_item_9
theorem bdX7_rest_0 : ∀ q ∈ ([(0, .iload_n 1, 1), (1, .invokestatic 291, 3), (4, .ifCond .ne 6, 3), (7, .ldc 73, 2), (9, .ireturn, 1), (10, .aload_n 0, 1), (11, .getfield 48, 3), (14, .iload_n 1, 1), (15, .aaload, 1), (16, .astore_n 3, 1), (17, .aload_n 3, 1), (18, .getfield 294, 3), (21, .ifCond .ne 6, 3), (24, .ldc 206, 2), (26, .ireturn, 1), (27, .aload_n 3, 1), (28, .getfield 294, 3), (31, .iconst 3, 1), (32, .if_icmp .eq 6, 3), (35, .ldc 128, 2), (37, .ireturn, 1), (38, .iload_n 2, 1), (39, .ifCond .ne 9, 3), (42, .ldc_w 311, 3), (45, .goto 9, 3), (48, .aload_n 3, 1), (49, .getfield 308, 3), (52, .iload_n 2, 1), (53, .irem, 1), (54, .ireturn, 1)] : List (Nat × Jvm.ClassFile.Instr × Nat)), decode cX7_rest q.1 = .ok q.2 := chk_ok _ 0 _ rfl (by decide +kernel)
theorem dX7_rest_0 : decode cX7_rest 0 = .ok (.iload_n 1, 1) := bdX7_rest_0 (0, .iload_n 1, 1) (List.mem_of_getElem? (i := 0) rfl)
theorem dX7_rest_1 : decode cX7_rest 1 = .ok (.invokestatic 291, 3) := bdX7_rest_0 (1, .invokestatic 291, 3) (List.mem_of_getElem? (i := 1) rfl)
theorem dX7_rest_4 : decode cX7_rest 4 = .ok (.ifCond .ne 6, 3) := bdX7_rest_0 (4, .ifCond .ne 6, 3) (List.mem_of_getElem? (i := 2) rfl)
theorem dX7_rest_7 : decode cX7_rest 7 = .ok (.ldc 73, 2) := bdX7_rest_0 (7, .ldc 73, 2) (List.mem_of_getElem? (i := 3) rfl)
theorem dX7_rest_9 : decode cX7_rest 9 = .ok (.ireturn, 1) := bdX7_rest_0 (9, .ireturn, 1) (List.mem_of_getElem? (i := 4) rfl)
theorem dX7_rest_10 : decode cX7_rest 10 = .ok (.aload_n 0, 1) := bdX7_rest_0 (10, .aload_n 0, 1) (List.mem_of_getElem? (i := 5) rfl)
theorem dX7_rest_11 : decode cX7_rest 11 = .ok (.getfield 48, 3) := bdX7_rest_0 (11, .getfield 48, 3) (List.mem_of_getElem? (i := 6) rfl)
theorem dX7_rest_14 : decode cX7_rest 14 = .ok (.iload_n 1, 1) := bdX7_rest_0 (14, .iload_n 1, 1) (List.mem_of_getElem? (i := 7) rfl)
theorem dX7_rest_15 : decode cX7_rest 15 = .ok (.aaload, 1) := bdX7_rest_0 (15, .aaload, 1) (List.mem_of_getElem? (i := 8) rfl)
theorem dX7_rest_16 : decode cX7_rest 16 = .ok (.astore_n 3, 1) := bdX7_rest_0 (16, .astore_n 3, 1) (List.mem_of_getElem? (i := 9) rfl)
theorem dX7_rest_17 : decode cX7_rest 17 = .ok (.aload_n 3, 1) := bdX7_rest_0 (17, .aload_n 3, 1) (List.mem_of_getElem? (i := 10) rfl)
theorem dX7_rest_18 : decode cX7_rest 18 = .ok (.getfield 294, 3) := bdX7_rest_0 (18, .getfield 294, 3) (List.mem_of_getElem? (i := 11) rfl)
theorem dX7_rest_21 : decode cX7_rest 21 = .ok (.ifCond .ne 6, 3) := bdX7_rest_0 (21, .ifCond .ne 6, 3) (List.mem_of_getElem? (i := 12) rfl)
theorem dX7_rest_24 : decode cX7_rest 24 = .ok (.ldc 206, 2) := bdX7_rest_0 (24, .ldc 206, 2) (List.mem_of_getElem? (i := 13) rfl)
theorem dX7_rest_26 : decode cX7_rest 26 = .ok (.ireturn, 1) := bdX7_rest_0 (26, .ireturn, 1) (List.mem_of_getElem? (i := 14) rfl)
theorem dX7_rest_27 : decode cX7_rest 27 = .ok (.aload_n 3, 1) := bdX7_rest_0 (27, .aload_n 3, 1) (List.mem_of_getElem? (i := 15) rfl)
theorem dX7_rest_28 : decode cX7_rest 28 = .ok (.getfield 294, 3) := bdX7_rest_0 (28, .getfield 294, 3) (List.mem_of_getElem? (i := 16) rfl)
theorem dX7_rest_31 : decode cX7_rest 31 = .ok (.iconst 3, 1) := bdX7_rest_0 (31, .iconst 3, 1) (List.mem_of_getElem? (i := 17) rfl)
theorem dX7_rest_32 : decode cX7_rest 32 = .ok (.if_icmp .eq 6, 3) := bdX7_rest_0 (32, .if_icmp .eq 6, 3) (List.mem_of_getElem? (i := 18) rfl)
theorem dX7_rest_35 : decode cX7_rest 35 = .ok (.ldc 128, 2) := bdX7_rest_0 (35, .ldc 128, 2) (List.mem_of_getElem? (i := 19) rfl)
theorem dX7_rest_37 : decode cX7_rest 37 = .ok (.ireturn, 1) := bdX7_rest_0 (37, .ireturn, 1) (List.mem_of_getElem? (i := 20) rfl)
theorem dX7_rest_38 : decode cX7_rest 38 = .ok (.iload_n 2, 1) := bdX7_rest_0 (38, .iload_n 2, 1) (List.mem_of_getElem? (i := 21) rfl)
theorem dX7_rest_39 : decode cX7_rest 39 = .ok (.ifCond .ne 9, 3) := bdX7_rest_0 (39, .ifCond .ne 9, 3) (List.mem_of_getElem? (i := 22) rfl)
theorem dX7_rest_42 : decode cX7_rest 42 = .ok (.ldc_w 311, 3) := bdX7_rest_0 (42, .ldc_w 311, 3) (List.mem_of_getElem? (i := 23) rfl)
theorem dX7_rest_45 : decode cX7_rest 45 = .ok (.goto 9, 3) := bdX7_rest_0 (45, .goto 9, 3) (List.mem_of_getElem? (i := 24) rfl)
theorem dX7_rest_48 : decode cX7_rest 48 = .ok (.aload_n 3, 1) := bdX7_rest_0 (48, .aload_n 3, 1) (List.mem_of_getElem? (i := 25) rfl)
theorem dX7_rest_49 : decode cX7_rest 49 = .ok (.getfield 308, 3) := bdX7_rest_0 (49, .getfield 308, 3) (List.mem_of_getElem? (i := 26) rfl)
theorem dX7_rest_52 : decode cX7_rest 52 = .ok (.iload_n 2, 1) := bdX7_rest_0 (52, .iload_n 2, 1) (List.mem_of_getElem? (i := 27) rfl)
theorem dX7_rest_53 : decode cX7_rest 53 = .ok (.irem, 1) := bdX7_rest_0 (53, .irem, 1) (List.mem_of_getElem? (i := 28) rfl)
theorem dX7_rest_54 : decode cX7_rest 54 = .ok (.ireturn, 1) := bdX7_rest_0 (54, .ireturn, 1) (List.mem_of_getElem? (i := 29) rfl)
def wpX7_rest (ln : Nat → Nat) (S : HC) (a0 : Nat) (a1 : Int32) (a2 : Int32) (post : Int32 → HC → Prop) : Prop := wpX7_isSlot ln S a1 fun z1 S => if z1 = 0 then (post (-1000000001 : Int32) S) else (dn_ (hR S a0 7) fun b2 => al_ (ln b2) a1 (hR S b2) fun o => dn_ o fun b3 => lt_ (hI S b3 0) fun z4 => if z4 = 0 then (post (-1000000011 : Int32) S) else (lt_ (hI S b3 0) fun z5 => if z5 = (3 : Int32) then (if a2 = 0 then (post (-1000000002 : Int32) S) else (lt_ (hI S b3 3) fun z6 => ne_ a2 <| lt_ (z6 - z6 / a2 * a2) fun z7 => post z7 S)) else (post (-1000000012 : Int32) S)))
abbrev rmX7_rest : Room := { frames := 1, cells := 0, slots := 0, locals := 20 }
set_option maxHeartbeats 4000000 in
set_option maxRecDepth 100000 in
theorem ctX7_rest {l : Launch} {g : GX} {N : Nat} {ln : Nat → Nat} {S : HC} {a0 : Nat} {a1 : Int32} {a2 : Int32} {post : Int32 → HC → Prop} (hr_a0 : a0 < N) (hk_a0 : kd a0 = 7) (h : wpX7_rest ln S a0 a1 a2 post) : Met l yX7_rest (Cond.code yX7_rest prog_1_method_37_code 4 (Option.some Jvm.ClassFile.FieldType.int) :: gtbl) rmX7_rest (va_Pc [.ref (gz g + a0), .int a1, .int a2] (AtP g N ln S)) (QI g N ln post) 0 0 (gF g) := by
  refine m_of (by decide) (Nat.le_of_ble_eq_true rfl) ?_
  intro p e s m below meth c ls F hr I hl
  have hl : lv_has ls 4 [(0, .ref (gz g + a0)), (1, .int a1), (2, .int a2)] := hl
  unfold wpX7_rest at h
  refine lv_iload_n F.1 F.2.1 dX7_rest_0 rfl (lv_at hl 1 rfl) ?_
  refine g_I I (run_S (As := [.int a1]) (rest := []) F I kX7_291 (ctX7_isSlot h) ⟨rfl, rfl⟩ ⟨Nat.le_of_ble_eq_true rfl, Nat.le_of_ble_eq_true rfl⟩ rfl hl.1 rfl (Nat.le_of_ble_eq_true rfl) ⟨Nat.le_of_ble_eq_true rfl, Nat.le_of_ble_eq_true rfl⟩ dX7_rest_1) (fun z1 S H locs I h => ?_)
  refine r_if_ne (tgt := 10) F dX7_rest_4 (by decide) h (fun h => ?_) (fun h => ?_)
  · refine lv_aload_n F.1 F.2.1 dX7_rest_10 rfl (lv_at hl 0 rfl) ?_
    refine r_getN F I hr_a0 hk_a0 fX7_48 (f := 15) rfl (by decide) dX7_rest_11 h (fun b2 hr_b2 hk_b2 h => ?_)
    refine lv_iload_n F.1 F.2.1 dX7_rest_14 rfl (lv_at hl 1 rfl) ?_
    refine r_aldN F I hr_b2 hk_b2 (by decide) (f := 5) rfl dX7_rest_15 h (fun b3 hr_b3 hk_b3 h => ?_)
    refine lv_astore_n (lv' := [(3, .ref (gz g + b3)), (0, .ref (gz g + a0)), (1, .int a1), (2, .int a2)]) F.1 F.2.1 dX7_rest_16 rfl hl (by decide) rfl (fun ls hl => ?_)
    refine lv_aload_n F.1 F.2.1 dX7_rest_17 rfl (lv_at hl 0 rfl) ?_
    refine r_getI F I hr_b3 hk_b3 fX7_294 rfl dX7_rest_18 h (fun z4 h => ?_)
    refine r_if_ne (tgt := 27) F dX7_rest_21 (by decide) h (fun h => ?_) (fun h => ?_)
    · refine lv_aload_n F.1 F.2.1 dX7_rest_27 rfl (lv_at hl 0 rfl) ?_
      refine r_getI F I hr_b3 hk_b3 fX7_294 rfl dX7_rest_28 h (fun z5 h => ?_)
      refine lv_iconst (v := 3) F.1 F.2.1 dX7_rest_31 (by decide) ?_
      refine r_icmp_eq (tgt := 38) F dX7_rest_32 (by decide) h (fun h => ?_) (fun h => ?_)
      · refine lv_iload_n F.1 F.2.1 dX7_rest_38 rfl (lv_at hl 3 rfl) ?_
        refine r_if_ne (tgt := 48) F dX7_rest_39 (by decide) h (fun h => ?_) (fun h => ?_)
        · refine lv_aload_n F.1 F.2.1 dX7_rest_48 rfl (lv_at hl 0 rfl) ?_
          refine r_getI F I hr_b3 hk_b3 fX7_308 rfl dX7_rest_49 h (fun z6 h => ?_)
          refine lv_iload_n F.1 F.2.1 dX7_rest_52 rfl (lv_at hl 3 rfl) ?_
          refine r_irem F dX7_rest_53 h (fun z7 h => ?_)
          exact r_ireturn F I ⟨hr.1, hr.2.1, trivial⟩ h dX7_rest_54
        · refine lv_ldcw F.1 F.2.1 F.2.2.2.1 (F.2.2.2.2 _ tw_902) dX7_rest_42 ?_
          refine lv_goto (tgt := 54) F.1 F.2.1 dX7_rest_45 (by decide) ?_
          exact r_ireturn F I ⟨hr.1, hr.2.1, trivial⟩ h dX7_rest_54
      · refine lv_ldc F.1 F.2.1 F.2.2.2.1 (F.2.2.2.2 _ tw_438) dX7_rest_35 ?_
        exact r_ireturn F I ⟨hr.1, hr.2.1, trivial⟩ h dX7_rest_37
    · refine lv_ldc F.1 F.2.1 F.2.2.2.1 (F.2.2.2.2 _ tw_593) dX7_rest_24 ?_
      exact r_ireturn F I ⟨hr.1, hr.2.1, trivial⟩ h dX7_rest_26
  · refine lv_ldc F.1 F.2.1 F.2.2.2.1 (F.2.2.2.2 _ tw_334) dX7_rest_7 ?_
    exact r_ireturn F I ⟨hr.1, hr.2.1, trivial⟩ h dX7_rest_9
theorem bdX7_tell_0 : ∀ q ∈ ([(0, .aload_n 0, 1), (1, .getfield 56, 3), (4, .ifCond .lt 12, 3), (7, .aload_n 0, 1), (8, .getfield 56, 3), (11, .bipush 60, 2), (13, .if_icmp .lt 6, 3), (16, .ldc 81, 2), (18, .ireturn, 1), (19, .aload_n 0, 1), (20, .getfield 52, 3), (23, .aload_n 0, 1), (24, .getfield 56, 3), (27, .iload_n 1, 1), (28, .iastore, 1), (29, .aload_n 0, 1), (30, .dup, 1), (31, .getfield 56, 3), (34, .iconst 1, 1), (35, .iadd, 1), (36, .putfield 56, 3), (39, .aload_n 0, 1), (40, .getfield 56, 3), (43, .ireturn, 1)] : List (Nat × Jvm.ClassFile.Instr × Nat)), decode cX7_tell q.1 = .ok q.2 := chk_ok _ 0 _ rfl (by decide +kernel)
theorem dX7_tell_0 : decode cX7_tell 0 = .ok (.aload_n 0, 1) := bdX7_tell_0 (0, .aload_n 0, 1) (List.mem_of_getElem? (i := 0) rfl)
theorem dX7_tell_1 : decode cX7_tell 1 = .ok (.getfield 56, 3) := bdX7_tell_0 (1, .getfield 56, 3) (List.mem_of_getElem? (i := 1) rfl)
theorem dX7_tell_4 : decode cX7_tell 4 = .ok (.ifCond .lt 12, 3) := bdX7_tell_0 (4, .ifCond .lt 12, 3) (List.mem_of_getElem? (i := 2) rfl)
theorem dX7_tell_7 : decode cX7_tell 7 = .ok (.aload_n 0, 1) := bdX7_tell_0 (7, .aload_n 0, 1) (List.mem_of_getElem? (i := 3) rfl)
theorem dX7_tell_8 : decode cX7_tell 8 = .ok (.getfield 56, 3) := bdX7_tell_0 (8, .getfield 56, 3) (List.mem_of_getElem? (i := 4) rfl)
theorem dX7_tell_11 : decode cX7_tell 11 = .ok (.bipush 60, 2) := bdX7_tell_0 (11, .bipush 60, 2) (List.mem_of_getElem? (i := 5) rfl)
theorem dX7_tell_13 : decode cX7_tell 13 = .ok (.if_icmp .lt 6, 3) := bdX7_tell_0 (13, .if_icmp .lt 6, 3) (List.mem_of_getElem? (i := 6) rfl)
theorem dX7_tell_16 : decode cX7_tell 16 = .ok (.ldc 81, 2) := bdX7_tell_0 (16, .ldc 81, 2) (List.mem_of_getElem? (i := 7) rfl)
theorem dX7_tell_18 : decode cX7_tell 18 = .ok (.ireturn, 1) := bdX7_tell_0 (18, .ireturn, 1) (List.mem_of_getElem? (i := 8) rfl)
theorem dX7_tell_19 : decode cX7_tell 19 = .ok (.aload_n 0, 1) := bdX7_tell_0 (19, .aload_n 0, 1) (List.mem_of_getElem? (i := 9) rfl)
theorem dX7_tell_20 : decode cX7_tell 20 = .ok (.getfield 52, 3) := bdX7_tell_0 (20, .getfield 52, 3) (List.mem_of_getElem? (i := 10) rfl)
theorem dX7_tell_23 : decode cX7_tell 23 = .ok (.aload_n 0, 1) := bdX7_tell_0 (23, .aload_n 0, 1) (List.mem_of_getElem? (i := 11) rfl)
theorem dX7_tell_24 : decode cX7_tell 24 = .ok (.getfield 56, 3) := bdX7_tell_0 (24, .getfield 56, 3) (List.mem_of_getElem? (i := 12) rfl)
theorem dX7_tell_27 : decode cX7_tell 27 = .ok (.iload_n 1, 1) := bdX7_tell_0 (27, .iload_n 1, 1) (List.mem_of_getElem? (i := 13) rfl)
theorem dX7_tell_28 : decode cX7_tell 28 = .ok (.iastore, 1) := bdX7_tell_0 (28, .iastore, 1) (List.mem_of_getElem? (i := 14) rfl)
theorem dX7_tell_29 : decode cX7_tell 29 = .ok (.aload_n 0, 1) := bdX7_tell_0 (29, .aload_n 0, 1) (List.mem_of_getElem? (i := 15) rfl)
theorem dX7_tell_30 : decode cX7_tell 30 = .ok (.dup, 1) := bdX7_tell_0 (30, .dup, 1) (List.mem_of_getElem? (i := 16) rfl)
theorem dX7_tell_31 : decode cX7_tell 31 = .ok (.getfield 56, 3) := bdX7_tell_0 (31, .getfield 56, 3) (List.mem_of_getElem? (i := 17) rfl)
theorem dX7_tell_34 : decode cX7_tell 34 = .ok (.iconst 1, 1) := bdX7_tell_0 (34, .iconst 1, 1) (List.mem_of_getElem? (i := 18) rfl)
theorem dX7_tell_35 : decode cX7_tell 35 = .ok (.iadd, 1) := bdX7_tell_0 (35, .iadd, 1) (List.mem_of_getElem? (i := 19) rfl)
theorem dX7_tell_36 : decode cX7_tell 36 = .ok (.putfield 56, 3) := bdX7_tell_0 (36, .putfield 56, 3) (List.mem_of_getElem? (i := 20) rfl)
theorem dX7_tell_39 : decode cX7_tell 39 = .ok (.aload_n 0, 1) := bdX7_tell_0 (39, .aload_n 0, 1) (List.mem_of_getElem? (i := 21) rfl)
theorem dX7_tell_40 : decode cX7_tell 40 = .ok (.getfield 56, 3) := bdX7_tell_0 (40, .getfield 56, 3) (List.mem_of_getElem? (i := 22) rfl)
theorem dX7_tell_43 : decode cX7_tell 43 = .ok (.ireturn, 1) := bdX7_tell_0 (43, .ireturn, 1) (List.mem_of_getElem? (i := 23) rfl)
theorem fX7_56 : fldOK RX7 56 7 9 .int false := ⟨_, _, _, tyX7, ⟨rfl, iX7, by decide, rfl, by decide⟩, tw_294, ⟨tyX7_ok, nmX7⟩, by decide +kernel, rfl, rfl⟩
def BX7_tell_16 (ln : Nat → Nat) (post : Int32 → HC → Prop) (S : HC)  : Prop := post (-1000000003 : Int32) S
def wpX7_tell (ln : Nat → Nat) (S : HC) (a0 : Nat) (a1 : Int32) (post : Int32 → HC → Prop) : Prop := lt_ (hI S a0 9) fun z1 => if z1 < 0 then (BX7_tell_16 ln post S) else (lt_ (hI S a0 9) fun z2 => if z2 < (60 : Int32) then (dn_ (hR S a0 8) fun b3 => lt_ (hI S a0 9) fun z4 => as_ (ln b3) z4 (fun j => sI S b3 j a1) fun S => lt_ (hI S a0 9) fun z5 => lt_ (z5 + (1 : Int32)) fun z6 => lt_ (sI S a0 9 z6) fun S => lt_ (hI S a0 9) fun z7 => post z7 S) else (BX7_tell_16 ln post S))
abbrev rmX7_tell : Room := { frames := 0, cells := 0, slots := 0, locals := 0 }
set_option maxHeartbeats 4000000 in
set_option maxRecDepth 100000 in
theorem ctX7_tell {l : Launch} {g : GX} {N : Nat} {ln : Nat → Nat} {S : HC} {a0 : Nat} {a1 : Int32} {post : Int32 → HC → Prop} (hr_a0 : a0 < N) (hk_a0 : kd a0 = 7) (h : wpX7_tell ln S a0 a1 post) : Met l yX7_tell (Cond.code yX7_tell prog_1_method_38_code 2 (Option.some Jvm.ClassFile.FieldType.int) :: gtbl) rmX7_tell (va_Pc [.ref (gz g + a0), .int a1] (AtP g N ln S)) (QI g N ln post) 0 0 (gF g) := by
  refine m_of (by decide) (Nat.le_of_ble_eq_true rfl) ?_
  intro p e s m below meth c ls F hr I hl
  have hl : lv_has ls 2 [(0, .ref (gz g + a0)), (1, .int a1)] := hl
  unfold wpX7_tell at h
  have hj_16 : ∀ (S : HC) (H : Heap) (locs : List Loc) (ls : Array Slot), BX7_tell_16 ln post S  → Inv g N ln S s H locs → lv_has ls 2 [] → W p l e rmX7_tell s m ([.ref (gz g + a0), .int a1] : List Value).toArray below meth c H locs 0 0 (MQ below (QI g N ln post) ([.ref (gz g + a0), .int a1] : List Value).toArray s 0 0 (gF g)) (F0 m 16 ls []) := by
    intro S H locs ls h I hl
    unfold BX7_tell_16 at h
    refine lv_ldc F.1 F.2.1 F.2.2.2.1 (F.2.2.2.2 _ tw_342) dX7_tell_16 ?_
    exact r_ireturn F I ⟨hr.1, hr.2.1, trivial⟩ h dX7_tell_18
  refine lv_aload_n F.1 F.2.1 dX7_tell_0 rfl (lv_at hl 0 rfl) ?_
  refine r_getI F I hr_a0 hk_a0 fX7_56 rfl dX7_tell_1 h (fun z1 h => ?_)
  refine r_if_lt (tgt := 16) F dX7_tell_4 (by decide) h (fun h => ?_) (fun h => ?_)
  · exact hj_16 S _ _ _   h I (lv_sub hl [] rfl)
  · refine lv_aload_n F.1 F.2.1 dX7_tell_7 rfl (lv_at hl 0 rfl) ?_
    refine r_getI F I hr_a0 hk_a0 fX7_56 rfl dX7_tell_8 h (fun z2 h => ?_)
    refine lv_bipush (v := 60) F.1 F.2.1 dX7_tell_11 (by decide) ?_
    refine r_icmp_lt (tgt := 19) F dX7_tell_13 (by decide) h (fun h => ?_) (fun h => ?_)
    · refine lv_aload_n F.1 F.2.1 dX7_tell_19 rfl (lv_at hl 0 rfl) ?_
      refine r_getN F I hr_a0 hk_a0 fX7_52 (f := 9) rfl (by decide) dX7_tell_20 h (fun b3 hr_b3 hk_b3 h => ?_)
      refine lv_aload_n F.1 F.2.1 dX7_tell_23 rfl (lv_at hl 0 rfl) ?_
      refine r_getI F I hr_a0 hk_a0 fX7_56 rfl dX7_tell_24 h (fun z4 h => ?_)
      refine lv_iload_n F.1 F.2.1 dX7_tell_27 rfl (lv_at hl 1 rfl) ?_
      refine r_ast F I hr_b3 hk_b3 dX7_tell_28 h (fun S H locs I h => ?_)
      refine lv_aload_n F.1 F.2.1 dX7_tell_29 rfl (lv_at hl 0 rfl) ?_
      refine lv_dup F.1 F.2.1 dX7_tell_30 rfl ?_
      refine r_getI F I hr_a0 hk_a0 fX7_56 rfl dX7_tell_31 h (fun z5 h => ?_)
      refine lv_iconst (v := 1) F.1 F.2.1 dX7_tell_34 (by decide) ?_
      refine r_iadd F dX7_tell_35 h (fun z6 h => ?_)
      refine r_putI F I hr_a0 hk_a0 fX7_56 rfl (Or.inl rfl) ⟨rfl, rfl⟩ dX7_tell_36 h (fun S H locs I h => ?_)
      refine lv_aload_n F.1 F.2.1 dX7_tell_39 rfl (lv_at hl 0 rfl) ?_
      refine r_getI F I hr_a0 hk_a0 fX7_56 rfl dX7_tell_40 h (fun z7 h => ?_)
      exact r_ireturn F I ⟨hr.1, hr.2.1, trivial⟩ h dX7_tell_43
    · exact hj_16 S _ _ _   h I (lv_sub hl [] rfl)
theorem bdX7_check_0 : ∀ q ∈ ([(0, .aload_n 0, 1), (1, .getfield 56, 3), (4, .istore_n 2, 1), (5, .aload_n 0, 1), (6, .iconst 0, 1), (7, .putfield 56, 3), (10, .iload_n 1, 1), (11, .iconst 1, 1), (12, .if_icmp .lt 9, 3), (15, .iload_n 1, 1), (16, .bipush 30, 2), (18, .if_icmp .le 6, 3), (21, .ldc 73, 2), (23, .ireturn, 1), (24, .aload_n 0, 1), (25, .getfield 19, 3), (28, .ifCond .ne 7, 3), (31, .ldc_w 311, 3), (34, .ireturn, 1), (35, .aload_n 0, 1), (36, .getfield 23, 3), (39, .aload_n 0, 1), (40, .getfield 16, 3), (43, .invokevirtual 181, 3), (46, .iload_n 1, 1), (47, .sipush 9999, 3), (50, .aload_n 0, 1), (51, .getfield 16, 3), (54, .getfield 138, 3), (57, .isub, 1), (58, .invokestatic 141, 3), (61, .istore_n 3, 1), (62, .iconst 0, 1), (63, .istore 4, 2), (65, .iconst 0, 1), (66, .istore 5, 2), (68, .iload 5, 2), (70, .iload_n 3, 1), (71, .if_icmp .ge 69, 3), (74, .aload_n 0, 1)] : List (Nat × Jvm.ClassFile.Instr × Nat)), decode cX7_check q.1 = .ok q.2 := chk_ok _ 0 _ rfl (by decide +kernel)
theorem dX7_check_0 : decode cX7_check 0 = .ok (.aload_n 0, 1) := bdX7_check_0 (0, .aload_n 0, 1) (List.mem_of_getElem? (i := 0) rfl)
theorem dX7_check_1 : decode cX7_check 1 = .ok (.getfield 56, 3) := bdX7_check_0 (1, .getfield 56, 3) (List.mem_of_getElem? (i := 1) rfl)
theorem dX7_check_4 : decode cX7_check 4 = .ok (.istore_n 2, 1) := bdX7_check_0 (4, .istore_n 2, 1) (List.mem_of_getElem? (i := 2) rfl)
theorem dX7_check_5 : decode cX7_check 5 = .ok (.aload_n 0, 1) := bdX7_check_0 (5, .aload_n 0, 1) (List.mem_of_getElem? (i := 3) rfl)
theorem dX7_check_6 : decode cX7_check 6 = .ok (.iconst 0, 1) := bdX7_check_0 (6, .iconst 0, 1) (List.mem_of_getElem? (i := 4) rfl)
theorem dX7_check_7 : decode cX7_check 7 = .ok (.putfield 56, 3) := bdX7_check_0 (7, .putfield 56, 3) (List.mem_of_getElem? (i := 5) rfl)
theorem dX7_check_10 : decode cX7_check 10 = .ok (.iload_n 1, 1) := bdX7_check_0 (10, .iload_n 1, 1) (List.mem_of_getElem? (i := 6) rfl)
theorem dX7_check_11 : decode cX7_check 11 = .ok (.iconst 1, 1) := bdX7_check_0 (11, .iconst 1, 1) (List.mem_of_getElem? (i := 7) rfl)
theorem dX7_check_12 : decode cX7_check 12 = .ok (.if_icmp .lt 9, 3) := bdX7_check_0 (12, .if_icmp .lt 9, 3) (List.mem_of_getElem? (i := 8) rfl)
theorem dX7_check_15 : decode cX7_check 15 = .ok (.iload_n 1, 1) := bdX7_check_0 (15, .iload_n 1, 1) (List.mem_of_getElem? (i := 9) rfl)
theorem dX7_check_16 : decode cX7_check 16 = .ok (.bipush 30, 2) := bdX7_check_0 (16, .bipush 30, 2) (List.mem_of_getElem? (i := 10) rfl)
theorem dX7_check_18 : decode cX7_check 18 = .ok (.if_icmp .le 6, 3) := bdX7_check_0 (18, .if_icmp .le 6, 3) (List.mem_of_getElem? (i := 11) rfl)
theorem dX7_check_21 : decode cX7_check 21 = .ok (.ldc 73, 2) := bdX7_check_0 (21, .ldc 73, 2) (List.mem_of_getElem? (i := 12) rfl)
theorem dX7_check_23 : decode cX7_check 23 = .ok (.ireturn, 1) := bdX7_check_0 (23, .ireturn, 1) (List.mem_of_getElem? (i := 13) rfl)
theorem dX7_check_24 : decode cX7_check 24 = .ok (.aload_n 0, 1) := bdX7_check_0 (24, .aload_n 0, 1) (List.mem_of_getElem? (i := 14) rfl)
theorem dX7_check_25 : decode cX7_check 25 = .ok (.getfield 19, 3) := bdX7_check_0 (25, .getfield 19, 3) (List.mem_of_getElem? (i := 15) rfl)
theorem dX7_check_28 : decode cX7_check 28 = .ok (.ifCond .ne 7, 3) := bdX7_check_0 (28, .ifCond .ne 7, 3) (List.mem_of_getElem? (i := 16) rfl)
theorem dX7_check_31 : decode cX7_check 31 = .ok (.ldc_w 311, 3) := bdX7_check_0 (31, .ldc_w 311, 3) (List.mem_of_getElem? (i := 17) rfl)
theorem dX7_check_34 : decode cX7_check 34 = .ok (.ireturn, 1) := bdX7_check_0 (34, .ireturn, 1) (List.mem_of_getElem? (i := 18) rfl)
theorem dX7_check_35 : decode cX7_check 35 = .ok (.aload_n 0, 1) := bdX7_check_0 (35, .aload_n 0, 1) (List.mem_of_getElem? (i := 19) rfl)
theorem dX7_check_36 : decode cX7_check 36 = .ok (.getfield 23, 3) := bdX7_check_0 (36, .getfield 23, 3) (List.mem_of_getElem? (i := 20) rfl)
theorem dX7_check_39 : decode cX7_check 39 = .ok (.aload_n 0, 1) := bdX7_check_0 (39, .aload_n 0, 1) (List.mem_of_getElem? (i := 21) rfl)
theorem dX7_check_40 : decode cX7_check 40 = .ok (.getfield 16, 3) := bdX7_check_0 (40, .getfield 16, 3) (List.mem_of_getElem? (i := 22) rfl)
theorem dX7_check_43 : decode cX7_check 43 = .ok (.invokevirtual 181, 3) := bdX7_check_0 (43, .invokevirtual 181, 3) (List.mem_of_getElem? (i := 23) rfl)
theorem dX7_check_46 : decode cX7_check 46 = .ok (.iload_n 1, 1) := bdX7_check_0 (46, .iload_n 1, 1) (List.mem_of_getElem? (i := 24) rfl)
theorem dX7_check_47 : decode cX7_check 47 = .ok (.sipush 9999, 3) := bdX7_check_0 (47, .sipush 9999, 3) (List.mem_of_getElem? (i := 25) rfl)
theorem dX7_check_50 : decode cX7_check 50 = .ok (.aload_n 0, 1) := bdX7_check_0 (50, .aload_n 0, 1) (List.mem_of_getElem? (i := 26) rfl)
theorem dX7_check_51 : decode cX7_check 51 = .ok (.getfield 16, 3) := bdX7_check_0 (51, .getfield 16, 3) (List.mem_of_getElem? (i := 27) rfl)
theorem dX7_check_54 : decode cX7_check 54 = .ok (.getfield 138, 3) := bdX7_check_0 (54, .getfield 138, 3) (List.mem_of_getElem? (i := 28) rfl)
theorem dX7_check_57 : decode cX7_check 57 = .ok (.isub, 1) := bdX7_check_0 (57, .isub, 1) (List.mem_of_getElem? (i := 29) rfl)
theorem dX7_check_58 : decode cX7_check 58 = .ok (.invokestatic 141, 3) := bdX7_check_0 (58, .invokestatic 141, 3) (List.mem_of_getElem? (i := 30) rfl)
theorem dX7_check_61 : decode cX7_check 61 = .ok (.istore_n 3, 1) := bdX7_check_0 (61, .istore_n 3, 1) (List.mem_of_getElem? (i := 31) rfl)
theorem dX7_check_62 : decode cX7_check 62 = .ok (.iconst 0, 1) := bdX7_check_0 (62, .iconst 0, 1) (List.mem_of_getElem? (i := 32) rfl)
theorem dX7_check_63 : decode cX7_check 63 = .ok (.istore 4, 2) := bdX7_check_0 (63, .istore 4, 2) (List.mem_of_getElem? (i := 33) rfl)
theorem dX7_check_65 : decode cX7_check 65 = .ok (.iconst 0, 1) := bdX7_check_0 (65, .iconst 0, 1) (List.mem_of_getElem? (i := 34) rfl)
theorem dX7_check_66 : decode cX7_check 66 = .ok (.istore 5, 2) := bdX7_check_0 (66, .istore 5, 2) (List.mem_of_getElem? (i := 35) rfl)
theorem dX7_check_68 : decode cX7_check 68 = .ok (.iload 5, 2) := bdX7_check_0 (68, .iload 5, 2) (List.mem_of_getElem? (i := 36) rfl)
theorem dX7_check_70 : decode cX7_check 70 = .ok (.iload_n 3, 1) := bdX7_check_0 (70, .iload_n 3, 1) (List.mem_of_getElem? (i := 37) rfl)
theorem dX7_check_71 : decode cX7_check 71 = .ok (.if_icmp .ge 69, 3) := bdX7_check_0 (71, .if_icmp .ge 69, 3) (List.mem_of_getElem? (i := 38) rfl)
theorem dX7_check_74 : decode cX7_check 74 = .ok (.aload_n 0, 1) := bdX7_check_0 (74, .aload_n 0, 1) (List.mem_of_getElem? (i := 39) rfl)
theorem bdX7_check_75 : ∀ q ∈ ([(75, .getfield 23, 3), (78, .invokevirtual 146, 3), (81, .pop, 1), (82, .aload_n 0, 1), (83, .iload 4, 2), (85, .iload_n 2, 1), (86, .aload_n 0, 1), (87, .getfield 23, 3), (90, .getfield 174, 3), (93, .invokevirtual 312, 3), (96, .ifCond .ne 8, 3), (99, .iconst 1, 1), (100, .iload 4, 2), (102, .iadd, 1), (103, .ireturn, 1), (104, .iinc 4 1, 3), (107, .aload_n 0, 1), (108, .iload 4, 2), (110, .iload_n 2, 1), (111, .aload_n 0, 1), (112, .aload_n 0, 1), (113, .getfield 23, 3), (116, .iconst 0, 1), (117, .invokevirtual 191, 3), (120, .invokevirtual 312, 3), (123, .ifCond .ne 8, 3), (126, .iconst 1, 1), (127, .iload 4, 2), (129, .iadd, 1), (130, .ireturn, 1), (131, .iinc 4 1, 3), (134, .iinc 5 1, 3), (137, .goto (-69), 3), (140, .iload 4, 2), (142, .iload_n 2, 1), (143, .if_icmp .ne 7, 3), (146, .iconst 0, 1), (147, .goto 7, 3), (150, .iconst 1, 1), (151, .iload 4, 2)] : List (Nat × Jvm.ClassFile.Instr × Nat)), decode cX7_check q.1 = .ok q.2 := chk_ok _ 75 _ rfl (by decide +kernel)
theorem dX7_check_75 : decode cX7_check 75 = .ok (.getfield 23, 3) := bdX7_check_75 (75, .getfield 23, 3) (List.mem_of_getElem? (i := 0) rfl)
theorem dX7_check_78 : decode cX7_check 78 = .ok (.invokevirtual 146, 3) := bdX7_check_75 (78, .invokevirtual 146, 3) (List.mem_of_getElem? (i := 1) rfl)
theorem dX7_check_81 : decode cX7_check 81 = .ok (.pop, 1) := bdX7_check_75 (81, .pop, 1) (List.mem_of_getElem? (i := 2) rfl)
theorem dX7_check_82 : decode cX7_check 82 = .ok (.aload_n 0, 1) := bdX7_check_75 (82, .aload_n 0, 1) (List.mem_of_getElem? (i := 3) rfl)
theorem dX7_check_83 : decode cX7_check 83 = .ok (.iload 4, 2) := bdX7_check_75 (83, .iload 4, 2) (List.mem_of_getElem? (i := 4) rfl)
theorem dX7_check_85 : decode cX7_check 85 = .ok (.iload_n 2, 1) := bdX7_check_75 (85, .iload_n 2, 1) (List.mem_of_getElem? (i := 5) rfl)
theorem dX7_check_86 : decode cX7_check 86 = .ok (.aload_n 0, 1) := bdX7_check_75 (86, .aload_n 0, 1) (List.mem_of_getElem? (i := 6) rfl)
theorem dX7_check_87 : decode cX7_check 87 = .ok (.getfield 23, 3) := bdX7_check_75 (87, .getfield 23, 3) (List.mem_of_getElem? (i := 7) rfl)
theorem dX7_check_90 : decode cX7_check 90 = .ok (.getfield 174, 3) := bdX7_check_75 (90, .getfield 174, 3) (List.mem_of_getElem? (i := 8) rfl)
theorem dX7_check_93 : decode cX7_check 93 = .ok (.invokevirtual 312, 3) := bdX7_check_75 (93, .invokevirtual 312, 3) (List.mem_of_getElem? (i := 9) rfl)
theorem dX7_check_96 : decode cX7_check 96 = .ok (.ifCond .ne 8, 3) := bdX7_check_75 (96, .ifCond .ne 8, 3) (List.mem_of_getElem? (i := 10) rfl)
theorem dX7_check_99 : decode cX7_check 99 = .ok (.iconst 1, 1) := bdX7_check_75 (99, .iconst 1, 1) (List.mem_of_getElem? (i := 11) rfl)
theorem dX7_check_100 : decode cX7_check 100 = .ok (.iload 4, 2) := bdX7_check_75 (100, .iload 4, 2) (List.mem_of_getElem? (i := 12) rfl)
theorem dX7_check_102 : decode cX7_check 102 = .ok (.iadd, 1) := bdX7_check_75 (102, .iadd, 1) (List.mem_of_getElem? (i := 13) rfl)
theorem dX7_check_103 : decode cX7_check 103 = .ok (.ireturn, 1) := bdX7_check_75 (103, .ireturn, 1) (List.mem_of_getElem? (i := 14) rfl)
theorem dX7_check_104 : decode cX7_check 104 = .ok (.iinc 4 1, 3) := bdX7_check_75 (104, .iinc 4 1, 3) (List.mem_of_getElem? (i := 15) rfl)
theorem dX7_check_107 : decode cX7_check 107 = .ok (.aload_n 0, 1) := bdX7_check_75 (107, .aload_n 0, 1) (List.mem_of_getElem? (i := 16) rfl)
theorem dX7_check_108 : decode cX7_check 108 = .ok (.iload 4, 2) := bdX7_check_75 (108, .iload 4, 2) (List.mem_of_getElem? (i := 17) rfl)
theorem dX7_check_110 : decode cX7_check 110 = .ok (.iload_n 2, 1) := bdX7_check_75 (110, .iload_n 2, 1) (List.mem_of_getElem? (i := 18) rfl)
theorem dX7_check_111 : decode cX7_check 111 = .ok (.aload_n 0, 1) := bdX7_check_75 (111, .aload_n 0, 1) (List.mem_of_getElem? (i := 19) rfl)
theorem dX7_check_112 : decode cX7_check 112 = .ok (.aload_n 0, 1) := bdX7_check_75 (112, .aload_n 0, 1) (List.mem_of_getElem? (i := 20) rfl)
theorem dX7_check_113 : decode cX7_check 113 = .ok (.getfield 23, 3) := bdX7_check_75 (113, .getfield 23, 3) (List.mem_of_getElem? (i := 21) rfl)
theorem dX7_check_116 : decode cX7_check 116 = .ok (.iconst 0, 1) := bdX7_check_75 (116, .iconst 0, 1) (List.mem_of_getElem? (i := 22) rfl)
theorem dX7_check_117 : decode cX7_check 117 = .ok (.invokevirtual 191, 3) := bdX7_check_75 (117, .invokevirtual 191, 3) (List.mem_of_getElem? (i := 23) rfl)
theorem dX7_check_120 : decode cX7_check 120 = .ok (.invokevirtual 312, 3) := bdX7_check_75 (120, .invokevirtual 312, 3) (List.mem_of_getElem? (i := 24) rfl)
theorem dX7_check_123 : decode cX7_check 123 = .ok (.ifCond .ne 8, 3) := bdX7_check_75 (123, .ifCond .ne 8, 3) (List.mem_of_getElem? (i := 25) rfl)
theorem dX7_check_126 : decode cX7_check 126 = .ok (.iconst 1, 1) := bdX7_check_75 (126, .iconst 1, 1) (List.mem_of_getElem? (i := 26) rfl)
theorem dX7_check_127 : decode cX7_check 127 = .ok (.iload 4, 2) := bdX7_check_75 (127, .iload 4, 2) (List.mem_of_getElem? (i := 27) rfl)
theorem dX7_check_129 : decode cX7_check 129 = .ok (.iadd, 1) := bdX7_check_75 (129, .iadd, 1) (List.mem_of_getElem? (i := 28) rfl)
theorem dX7_check_130 : decode cX7_check 130 = .ok (.ireturn, 1) := bdX7_check_75 (130, .ireturn, 1) (List.mem_of_getElem? (i := 29) rfl)
theorem dX7_check_131 : decode cX7_check 131 = .ok (.iinc 4 1, 3) := bdX7_check_75 (131, .iinc 4 1, 3) (List.mem_of_getElem? (i := 30) rfl)
theorem dX7_check_134 : decode cX7_check 134 = .ok (.iinc 5 1, 3) := bdX7_check_75 (134, .iinc 5 1, 3) (List.mem_of_getElem? (i := 31) rfl)
theorem dX7_check_137 : decode cX7_check 137 = .ok (.goto (-69), 3) := bdX7_check_75 (137, .goto (-69), 3) (List.mem_of_getElem? (i := 32) rfl)
theorem dX7_check_140 : decode cX7_check 140 = .ok (.iload 4, 2) := bdX7_check_75 (140, .iload 4, 2) (List.mem_of_getElem? (i := 33) rfl)
theorem dX7_check_142 : decode cX7_check 142 = .ok (.iload_n 2, 1) := bdX7_check_75 (142, .iload_n 2, 1) (List.mem_of_getElem? (i := 34) rfl)
theorem dX7_check_143 : decode cX7_check 143 = .ok (.if_icmp .ne 7, 3) := bdX7_check_75 (143, .if_icmp .ne 7, 3) (List.mem_of_getElem? (i := 35) rfl)
theorem dX7_check_146 : decode cX7_check 146 = .ok (.iconst 0, 1) := bdX7_check_75 (146, .iconst 0, 1) (List.mem_of_getElem? (i := 36) rfl)
theorem dX7_check_147 : decode cX7_check 147 = .ok (.goto 7, 3) := bdX7_check_75 (147, .goto 7, 3) (List.mem_of_getElem? (i := 37) rfl)
theorem dX7_check_150 : decode cX7_check 150 = .ok (.iconst 1, 1) := bdX7_check_75 (150, .iconst 1, 1) (List.mem_of_getElem? (i := 38) rfl)
theorem dX7_check_151 : decode cX7_check 151 = .ok (.iload 4, 2) := bdX7_check_75 (151, .iload 4, 2) (List.mem_of_getElem? (i := 39) rfl)
theorem bdX7_check_153 : ∀ q ∈ ([(153, .iadd, 1), (154, .ireturn, 1)] : List (Nat × Jvm.ClassFile.Instr × Nat)), decode cX7_check q.1 = .ok q.2 := chk_ok _ 153 _ rfl (by decide +kernel)
theorem dX7_check_153 : decode cX7_check 153 = .ok (.iadd, 1) := bdX7_check_153 (153, .iadd, 1) (List.mem_of_getElem? (i := 0) rfl)
theorem dX7_check_154 : decode cX7_check 154 = .ok (.ireturn, 1) := bdX7_check_153 (154, .ireturn, 1) (List.mem_of_getElem? (i := 1) rfl)
theorem kX7_312 : mthV RX7 312 7 yX7_isWaiting prog_1_method_46_code 4 (Option.some Jvm.ClassFile.FieldType.boolean) 3 := ⟨⟨⟨tw_911, tw_60, tw_914⟩, rfl, by decide +kernel⟩, tw_913, tw_21, rfl⟩
theorem fX7_19 : fldOK RX7 19 7 2 .boolean false := ⟨_, _, _, tyX7, ⟨rfl, iX7, by decide, rfl, by decide⟩, tw_287, ⟨tyX7_ok, nmX7⟩, by decide +kernel, rfl, rfl⟩
theorem fX7_16 : fldOK RX7 16 7 1 (.object "LionShield$Land") true := ⟨_, _, _, tyX7, ⟨rfl, iX7, by decide, rfl, by decide⟩, tw_286, ⟨tyX7_ok, nmX7⟩, by decide +kernel, rfl, rfl⟩
def LX7_check_68 (ln : Nat → Nat) (post : Int32 → HC → Prop) : Nat → HC → Nat → Int32 → Int32 → Int32 → Int32 → Prop
  | 0 => fun _ _ _ _ _ _ => False
  | n68 + 1 => fun S x0 x2 x3 x4 x5 => if x3 ≤ x5 then (if x4 = x2 then (post (0 : Int32) S) else (lt_ ((1 : Int32) + x4) fun z1 => post z1 S)) else (dn_ (hR S x0 3) fun b2 => wpX0_passYear ln S b2 fun z3 S => dn_ (hR S x0 3) fun b4 => lt_ (hI S b4 6) fun z5 => wpX7_isWaiting ln S x0 x4 x2 z5 fun z6 S => if z6 = 0 then (lt_ ((1 : Int32) + x4) fun z14 => post z14 S) else (lt_ (x4 + (1 : Int32)) fun z7 => dn_ (hR S x0 3) fun b8 => wpX7_allBear ln S x0 b8 (0 : Int32) fun z9 S => wpX7_isWaiting ln S x0 z7 x2 z9 fun z10 S => if z10 = 0 then (lt_ ((1 : Int32) + z7) fun z13 => post z13 S) else (lt_ (z7 + (1 : Int32)) fun z11 => lt_ (x5 + (1 : Int32)) fun z12 => (LX7_check_68 ln post n68) S x0 x2 x3 z11 z12)))
def BX7_check_21 (ln : Nat → Nat) (post : Int32 → HC → Prop) (S : HC)  : Prop := post (-1000000001 : Int32) S
def wpX7_check (ln : Nat → Nat) (S : HC) (a0 : Nat) (a1 : Int32) (post : Int32 → HC → Prop) : Prop := lt_ (hI S a0 9) fun z15 => lt_ (sI S a0 9 (0 : Int32)) fun S => if a1 < (1 : Int32) then (BX7_check_21 ln post S) else (if a1 ≤ (30 : Int32) then (lt_ (hI S a0 2) fun z16 => if z16 = 0 then (post (-1000000002 : Int32) S) else (dn_ (hR S a0 3) fun b17 => dn_ (hR S a0 1) fun b18 => wpX0_become ln S b17 b18 fun S => dn_ (hR S a0 1) fun b19 => lt_ (hI S b19 8) fun z20 => lt_ ((9999 : Int32) - z20) fun z21 => lt_ (if z21 < a1 then z21 else a1) fun z22 => ∃ n68, LX7_check_68 ln post n68 S a0 z15 z22 (0 : Int32) (0 : Int32))) else (BX7_check_21 ln post S))
abbrev rmX7_check : Room := { frames := 6, cells := 0, slots := 0, locals := 143 }
set_option maxHeartbeats 4000000 in
set_option maxRecDepth 100000 in
theorem ctX7_check {l : Launch} {g : GX} {N : Nat} {ln : Nat → Nat} {S : HC} {a0 : Nat} {a1 : Int32} {post : Int32 → HC → Prop} (hr_a0 : a0 < N) (hk_a0 : kd a0 = 7) (h : wpX7_check ln S a0 a1 post) : Met l yX7_check (Cond.code yX7_check prog_1_method_39_code 6 (Option.some Jvm.ClassFile.FieldType.int) :: gtbl) rmX7_check (va_Pc [.ref (gz g + a0), .int a1] (AtP g N ln S)) (QI g N ln post) 0 0 (gF g) := by
  refine m_of (by decide) (Nat.le_of_ble_eq_true rfl) ?_
  intro p e s m below meth c ls F hr I hl
  have hl : lv_has ls 6 [(0, .ref (gz g + a0)), (1, .int a1)] := hl
  unfold wpX7_check at h
  have hl_68 : ∀ n68 : Nat, ∀ (S : HC) (H : Heap) (locs : List Loc) (ls : Array Slot) (x0 : Nat) (x2 : Int32) (x3 : Int32) (x4 : Int32) (x5 : Int32), x0 < N → kd x0 = 7 → LX7_check_68 ln post n68 S x0 x2 x3 x4 x5 → Inv g N ln S s H locs → lv_has ls 6 [(0, .ref (gz g + x0)), (2, .int x2), (3, .int x3), (4, .int x4), (5, .int x5)] → W p l e rmX7_check s m ([.ref (gz g + a0), .int a1] : List Value).toArray below meth c H locs 0 0 (MQ below (QI g N ln post) ([.ref (gz g + a0), .int a1] : List Value).toArray s 0 0 (gF g)) (F0 m 68 ls []) := by
    intro n68
    induction n68 with
    | zero =>
      intro S H locs ls x0 x2 x3 x4 x5 hr_x0 hk_x0 h I hl
      exact h.elim
    | succ n68 ih =>
      have hk68 := ih
      intro S H locs ls x0 x2 x3 x4 x5 hr_x0 hk_x0 h I hl
      rw [LX7_check_68] at h
      refine lv_iload F.1 F.2.1 dX7_check_68 (lv_at hl 4 rfl) ?_
      refine lv_iload_n F.1 F.2.1 dX7_check_70 rfl (lv_at hl 2 rfl) ?_
      refine r_icmp_ge (tgt := 140) F dX7_check_71 (by decide) h (fun h => ?_) (fun h => ?_)
      · refine lv_iload F.1 F.2.1 dX7_check_140 (lv_at hl 3 rfl) ?_
        refine lv_iload_n F.1 F.2.1 dX7_check_142 rfl (lv_at hl 1 rfl) ?_
        refine r_icmp_ne (tgt := 150) F dX7_check_143 (by decide) h (fun h => ?_) (fun h => ?_)
        · refine lv_iconst (v := 1) F.1 F.2.1 dX7_check_150 (by decide) ?_
          refine lv_iload F.1 F.2.1 dX7_check_151 (lv_at hl 3 rfl) ?_
          refine r_iadd F dX7_check_153 h (fun z1 h => ?_)
          exact r_ireturn F I ⟨hr.1, hr.2.1, trivial⟩ h dX7_check_154
        · refine lv_iconst (v := 0) F.1 F.2.1 dX7_check_146 (by decide) ?_
          refine lv_goto (tgt := 154) F.1 F.2.1 dX7_check_147 (by decide) ?_
          exact r_ireturn F I ⟨hr.1, hr.2.1, trivial⟩ h dX7_check_154
      · refine lv_aload_n F.1 F.2.1 dX7_check_74 rfl (lv_at hl 0 rfl) ?_
        refine r_getN F I hr_x0 hk_x0 fX7_23 (f := 0) rfl (by decide) dX7_check_75 h (fun b2 hr_b2 hk_b2 h => ?_)
        refine g_I I (run_V (As := []) (rest := []) F I hr_b2 hk_b2 (by decide) kX7_146 (ctX0_passYear hr_b2 hk_b2 h) ⟨rfl, rfl⟩ ⟨Nat.le_of_ble_eq_true rfl, Nat.le_of_ble_eq_true rfl⟩ rfl hl.1 rfl (Nat.le_of_ble_eq_true rfl) ⟨Nat.le_of_ble_eq_true rfl, Nat.le_of_ble_eq_true rfl⟩ dX7_check_78) (fun z3 S H locs I h => ?_)
        refine lv_pop F.1 F.2.1 dX7_check_81 rfl ?_
        refine lv_aload_n F.1 F.2.1 dX7_check_82 rfl (lv_at hl 0 rfl) ?_
        refine lv_iload F.1 F.2.1 dX7_check_83 (lv_at hl 3 rfl) ?_
        refine lv_iload_n F.1 F.2.1 dX7_check_85 rfl (lv_at hl 1 rfl) ?_
        refine lv_aload_n F.1 F.2.1 dX7_check_86 rfl (lv_at hl 0 rfl) ?_
        refine r_getN F I hr_x0 hk_x0 fX7_23 (f := 0) rfl (by decide) dX7_check_87 h (fun b4 hr_b4 hk_b4 h => ?_)
        refine r_getI F I hr_b4 hk_b4 fX7_174 rfl dX7_check_90 h (fun z5 h => ?_)
        refine g_I I (run_V (As := [.int x4, .int x2, .int z5]) (rest := []) F I hr_x0 hk_x0 (by decide) kX7_312 (ctX7_isWaiting hr_x0 hk_x0 h) ⟨rfl, rfl⟩ ⟨Nat.le_of_ble_eq_true rfl, Nat.le_of_ble_eq_true rfl⟩ rfl hl.1 rfl (Nat.le_of_ble_eq_true rfl) ⟨Nat.le_of_ble_eq_true rfl, Nat.le_of_ble_eq_true rfl⟩ dX7_check_93) (fun z6 S H locs I h => ?_)
        refine r_if_ne (tgt := 104) F dX7_check_96 (by decide) h (fun h => ?_) (fun h => ?_)
        · obtain ⟨z7, e_z7, h⟩ := lt_x h
          refine lv_iinc (v := z7) (lv' := [(4, .int z7), (0, .ref (gz g + x0)), (2, .int x2), (3, .int x3), (5, .int x5)]) F.1 F.2.1 dX7_check_104 hl (k := 3) rfl (by rw [e_z7]; rfl) (by decide) rfl (fun ls hl => ?_)
          refine lv_aload_n F.1 F.2.1 dX7_check_107 rfl (lv_at hl 1 rfl) ?_
          refine lv_iload F.1 F.2.1 dX7_check_108 (lv_at hl 0 rfl) ?_
          refine lv_iload_n F.1 F.2.1 dX7_check_110 rfl (lv_at hl 2 rfl) ?_
          refine lv_aload_n F.1 F.2.1 dX7_check_111 rfl (lv_at hl 1 rfl) ?_
          refine lv_aload_n F.1 F.2.1 dX7_check_112 rfl (lv_at hl 1 rfl) ?_
          refine r_getN F I hr_x0 hk_x0 fX7_23 (f := 0) rfl (by decide) dX7_check_113 h (fun b8 hr_b8 hk_b8 h => ?_)
          refine lv_iconst (v := 0) F.1 F.2.1 dX7_check_116 (by decide) ?_
          refine g_I I (run_V (As := [.ref (gz g + b8), .int (0 : Int32)]) (rest := [.int x2, .int z7, .ref (gz g + x0)]) F I hr_x0 hk_x0 (by decide) kX7_191 (ctX7_allBear hr_x0 hk_x0 hr_b8 hk_b8 h) ⟨rfl, rfl⟩ ⟨Nat.le_of_ble_eq_true rfl, Nat.le_of_ble_eq_true rfl⟩ rfl hl.1 rfl (Nat.le_of_ble_eq_true rfl) ⟨Nat.le_of_ble_eq_true rfl, Nat.le_of_ble_eq_true rfl⟩ dX7_check_117) (fun z9 S H locs I h => ?_)
          refine g_I I (run_V (As := [.int z7, .int x2, .int z9]) (rest := []) F I hr_x0 hk_x0 (by decide) kX7_312 (ctX7_isWaiting hr_x0 hk_x0 h) ⟨rfl, rfl⟩ ⟨Nat.le_of_ble_eq_true rfl, Nat.le_of_ble_eq_true rfl⟩ rfl hl.1 rfl (Nat.le_of_ble_eq_true rfl) ⟨Nat.le_of_ble_eq_true rfl, Nat.le_of_ble_eq_true rfl⟩ dX7_check_120) (fun z10 S H locs I h => ?_)
          refine r_if_ne (tgt := 131) F dX7_check_123 (by decide) h (fun h => ?_) (fun h => ?_)
          · obtain ⟨z11, e_z11, h⟩ := lt_x h
            refine lv_iinc (v := z11) (lv' := [(4, .int z11), (0, .ref (gz g + x0)), (2, .int x2), (3, .int x3), (5, .int x5)]) F.1 F.2.1 dX7_check_131 hl (k := 0) rfl (by rw [e_z11]; rfl) (by decide) rfl (fun ls hl => ?_)
            obtain ⟨z12, e_z12, h⟩ := lt_x h
            refine lv_iinc (v := z12) (lv' := [(5, .int z12), (4, .int z11), (0, .ref (gz g + x0)), (2, .int x2), (3, .int x3)]) F.1 F.2.1 dX7_check_134 hl (k := 4) rfl (by rw [e_z12]; rfl) (by decide) rfl (fun ls hl => ?_)
            refine lv_goto (tgt := 68) F.1 F.2.1 dX7_check_137 (by decide) ?_
            exact hk68 S _ _ _ x0 x2 x3 z11 z12 hr_x0 hk_x0 h I (lv_sub hl [2, 3, 4, 1, 0] rfl)
          · refine lv_iconst (v := 1) F.1 F.2.1 dX7_check_126 (by decide) ?_
            refine lv_iload F.1 F.2.1 dX7_check_127 (lv_at hl 0 rfl) ?_
            refine r_iadd F dX7_check_129 h (fun z13 h => ?_)
            exact r_ireturn F I ⟨hr.1, hr.2.1, trivial⟩ h dX7_check_130
        · refine lv_iconst (v := 1) F.1 F.2.1 dX7_check_99 (by decide) ?_
          refine lv_iload F.1 F.2.1 dX7_check_100 (lv_at hl 3 rfl) ?_
          refine r_iadd F dX7_check_102 h (fun z14 h => ?_)
          exact r_ireturn F I ⟨hr.1, hr.2.1, trivial⟩ h dX7_check_103
  have hj_21 : ∀ (S : HC) (H : Heap) (locs : List Loc) (ls : Array Slot), BX7_check_21 ln post S  → Inv g N ln S s H locs → lv_has ls 6 [] → W p l e rmX7_check s m ([.ref (gz g + a0), .int a1] : List Value).toArray below meth c H locs 0 0 (MQ below (QI g N ln post) ([.ref (gz g + a0), .int a1] : List Value).toArray s 0 0 (gF g)) (F0 m 21 ls []) := by
    intro S H locs ls h I hl
    unfold BX7_check_21 at h
    refine lv_ldc F.1 F.2.1 F.2.2.2.1 (F.2.2.2.2 _ tw_334) dX7_check_21 ?_
    exact r_ireturn F I ⟨hr.1, hr.2.1, trivial⟩ h dX7_check_23
  refine lv_aload_n F.1 F.2.1 dX7_check_0 rfl (lv_at hl 0 rfl) ?_
  refine r_getI F I hr_a0 hk_a0 fX7_56 rfl dX7_check_1 h (fun z15 h => ?_)
  refine lv_istore_n (lv' := [(2, .int z15), (0, .ref (gz g + a0)), (1, .int a1)]) F.1 F.2.1 dX7_check_4 rfl hl (by decide) rfl (fun ls hl => ?_)
  refine lv_aload_n F.1 F.2.1 dX7_check_5 rfl (lv_at hl 1 rfl) ?_
  refine lv_iconst (v := 0) F.1 F.2.1 dX7_check_6 (by decide) ?_
  refine r_putI F I hr_a0 hk_a0 fX7_56 rfl (Or.inl rfl) ⟨rfl, rfl⟩ dX7_check_7 h (fun S H locs I h => ?_)
  refine lv_iload_n F.1 F.2.1 dX7_check_10 rfl (lv_at hl 2 rfl) ?_
  refine lv_iconst (v := 1) F.1 F.2.1 dX7_check_11 (by decide) ?_
  refine r_icmp_lt (tgt := 21) F dX7_check_12 (by decide) h (fun h => ?_) (fun h => ?_)
  · exact hj_21 S _ _ _   h I (lv_sub hl [] rfl)
  · refine lv_iload_n F.1 F.2.1 dX7_check_15 rfl (lv_at hl 2 rfl) ?_
    refine lv_bipush (v := 30) F.1 F.2.1 dX7_check_16 (by decide) ?_
    refine r_icmp_le (tgt := 24) F dX7_check_18 (by decide) h (fun h => ?_) (fun h => ?_)
    · refine lv_aload_n F.1 F.2.1 dX7_check_24 rfl (lv_at hl 1 rfl) ?_
      refine r_getI F I hr_a0 hk_a0 fX7_19 rfl dX7_check_25 h (fun z16 h => ?_)
      refine r_if_ne (tgt := 35) F dX7_check_28 (by decide) h (fun h => ?_) (fun h => ?_)
      · refine lv_aload_n F.1 F.2.1 dX7_check_35 rfl (lv_at hl 1 rfl) ?_
        refine r_getN F I hr_a0 hk_a0 fX7_23 (f := 0) rfl (by decide) dX7_check_36 h (fun b17 hr_b17 hk_b17 h => ?_)
        refine lv_aload_n F.1 F.2.1 dX7_check_39 rfl (lv_at hl 1 rfl) ?_
        refine r_getN F I hr_a0 hk_a0 fX7_16 (f := 0) rfl (by decide) dX7_check_40 h (fun b18 hr_b18 hk_b18 h => ?_)
        refine g_V I (run_V (As := [.ref (gz g + b18)]) (rest := []) F I hr_b17 hk_b17 (by decide) kX7_181 (ctX0_become hr_b17 hk_b17 hr_b18 hk_b18 h) ⟨rfl, rfl⟩ ⟨Nat.le_of_ble_eq_true rfl, Nat.le_of_ble_eq_true rfl⟩ rfl hl.1 rfl (Nat.le_of_ble_eq_true rfl) ⟨Nat.le_of_ble_eq_true rfl, Nat.le_of_ble_eq_true rfl⟩ dX7_check_43) (fun S H locs I h => ?_)
        refine lv_iload_n F.1 F.2.1 dX7_check_46 rfl (lv_at hl 2 rfl) ?_
        refine lv_sipush (v := 9999) F.1 F.2.1 dX7_check_47 (by decide) ?_
        refine lv_aload_n F.1 F.2.1 dX7_check_50 rfl (lv_at hl 1 rfl) ?_
        refine r_getN F I hr_a0 hk_a0 fX7_16 (f := 0) rfl (by decide) dX7_check_51 h (fun b19 hr_b19 hk_b19 h => ?_)
        refine r_getI F I hr_b19 hk_b19 fX7_138 rfl dX7_check_54 h (fun z20 h => ?_)
        refine r_isub F dX7_check_57 h (fun z21 h => ?_)
        refine r_mmin F hl.1 tw_416 (Nat.le_of_ble_eq_true rfl) (Nat.le_of_ble_eq_true rfl) (Nat.zero_le _) (Nat.zero_le _) dX7_check_58 h (fun z22 h => ?_)
        refine lv_istore_n (lv' := [(3, .int z22), (2, .int z15), (0, .ref (gz g + a0)), (1, .int a1)]) F.1 F.2.1 dX7_check_61 rfl hl (by decide) rfl (fun ls hl => ?_)
        refine lv_iconst (v := 0) F.1 F.2.1 dX7_check_62 (by decide) ?_
        refine lv_istore (lv' := [(4, .int (0 : Int32)), (3, .int z22), (2, .int z15), (0, .ref (gz g + a0)), (1, .int a1)]) F.1 F.2.1 dX7_check_63 hl (by decide) rfl (fun ls hl => ?_)
        refine lv_iconst (v := 0) F.1 F.2.1 dX7_check_65 (by decide) ?_
        refine lv_istore (lv' := [(5, .int (0 : Int32)), (4, .int (0 : Int32)), (3, .int z22), (2, .int z15), (0, .ref (gz g + a0)), (1, .int a1)]) F.1 F.2.1 dX7_check_66 hl (by decide) rfl (fun ls hl => ?_)
        obtain ⟨n68, h⟩ := h
        exact hl_68 n68 S _ _ _ a0 z15 z22 (0 : Int32) (0 : Int32) hr_a0 hk_a0 h I (lv_sub hl [4, 3, 2, 1, 0] rfl)
      · refine lv_ldcw F.1 F.2.1 F.2.2.2.1 (F.2.2.2.2 _ tw_902) dX7_check_31 ?_
        exact r_ireturn F I ⟨hr.1, hr.2.1, trivial⟩ h dX7_check_34
    · exact hj_21 S _ _ _   h I (lv_sub hl [] rfl)
theorem bdX7_keep_0 : ∀ q ∈ ([(0, .aload_n 0, 1), (1, .getfield 16, 3), (4, .aload_n 0, 1), (5, .getfield 10, 3), (8, .invokevirtual 181, 3), (11, .aload_n 0, 1), (12, .iconst 1, 1), (13, .putfield 19, 3), (16, .aload_n 0, 1), (17, .getfield 10, 3), (20, .getfield 174, 3), (23, .ireturn, 1)] : List (Nat × Jvm.ClassFile.Instr × Nat)), decode cX7_keep q.1 = .ok q.2 := chk_ok _ 0 _ rfl (by decide +kernel)
theorem dX7_keep_0 : decode cX7_keep 0 = .ok (.aload_n 0, 1) := bdX7_keep_0 (0, .aload_n 0, 1) (List.mem_of_getElem? (i := 0) rfl)
theorem dX7_keep_1 : decode cX7_keep 1 = .ok (.getfield 16, 3) := bdX7_keep_0 (1, .getfield 16, 3) (List.mem_of_getElem? (i := 1) rfl)
theorem dX7_keep_4 : decode cX7_keep 4 = .ok (.aload_n 0, 1) := bdX7_keep_0 (4, .aload_n 0, 1) (List.mem_of_getElem? (i := 2) rfl)
theorem dX7_keep_5 : decode cX7_keep 5 = .ok (.getfield 10, 3) := bdX7_keep_0 (5, .getfield 10, 3) (List.mem_of_getElem? (i := 3) rfl)
theorem dX7_keep_8 : decode cX7_keep 8 = .ok (.invokevirtual 181, 3) := bdX7_keep_0 (8, .invokevirtual 181, 3) (List.mem_of_getElem? (i := 4) rfl)
theorem dX7_keep_11 : decode cX7_keep 11 = .ok (.aload_n 0, 1) := bdX7_keep_0 (11, .aload_n 0, 1) (List.mem_of_getElem? (i := 5) rfl)
theorem dX7_keep_12 : decode cX7_keep 12 = .ok (.iconst 1, 1) := bdX7_keep_0 (12, .iconst 1, 1) (List.mem_of_getElem? (i := 6) rfl)
theorem dX7_keep_13 : decode cX7_keep 13 = .ok (.putfield 19, 3) := bdX7_keep_0 (13, .putfield 19, 3) (List.mem_of_getElem? (i := 7) rfl)
theorem dX7_keep_16 : decode cX7_keep 16 = .ok (.aload_n 0, 1) := bdX7_keep_0 (16, .aload_n 0, 1) (List.mem_of_getElem? (i := 8) rfl)
theorem dX7_keep_17 : decode cX7_keep 17 = .ok (.getfield 10, 3) := bdX7_keep_0 (17, .getfield 10, 3) (List.mem_of_getElem? (i := 9) rfl)
theorem dX7_keep_20 : decode cX7_keep 20 = .ok (.getfield 174, 3) := bdX7_keep_0 (20, .getfield 174, 3) (List.mem_of_getElem? (i := 10) rfl)
theorem dX7_keep_23 : decode cX7_keep 23 = .ok (.ireturn, 1) := bdX7_keep_0 (23, .ireturn, 1) (List.mem_of_getElem? (i := 11) rfl)
def wpX7_keep (ln : Nat → Nat) (S : HC) (a0 : Nat) (post : Int32 → HC → Prop) : Prop := dn_ (hR S a0 1) fun b1 => dn_ (hR S a0 0) fun b2 => wpX0_become ln S b1 b2 fun S => lt_ (sI S a0 2 (1 : Int32)) fun S => dn_ (hR S a0 0) fun b3 => lt_ (hI S b3 6) fun z4 => post z4 S
abbrev rmX7_keep : Room := { frames := 1, cells := 0, slots := 0, locals := 22 }
set_option maxHeartbeats 4000000 in
set_option maxRecDepth 100000 in
theorem ctX7_keep {l : Launch} {g : GX} {N : Nat} {ln : Nat → Nat} {S : HC} {a0 : Nat} {post : Int32 → HC → Prop} (hr_a0 : a0 < N) (hk_a0 : kd a0 = 7) (h : wpX7_keep ln S a0 post) : Met l yX7_keep (Cond.code yX7_keep prog_1_method_40_code 1 (Option.some Jvm.ClassFile.FieldType.int) :: gtbl) rmX7_keep (va_Pc [.ref (gz g + a0)] (AtP g N ln S)) (QI g N ln post) 0 0 (gF g) := by
  refine m_of (by decide) (Nat.le_of_ble_eq_true rfl) ?_
  intro p e s m below meth c ls F hr I hl
  have hl : lv_has ls 1 [(0, .ref (gz g + a0))] := hl
  unfold wpX7_keep at h
  refine lv_aload_n F.1 F.2.1 dX7_keep_0 rfl (lv_at hl 0 rfl) ?_
  refine r_getN F I hr_a0 hk_a0 fX7_16 (f := 0) rfl (by decide) dX7_keep_1 h (fun b1 hr_b1 hk_b1 h => ?_)
  refine lv_aload_n F.1 F.2.1 dX7_keep_4 rfl (lv_at hl 0 rfl) ?_
  refine r_getN F I hr_a0 hk_a0 fX7_10 (f := 0) rfl (by decide) dX7_keep_5 h (fun b2 hr_b2 hk_b2 h => ?_)
  refine g_V I (run_V (As := [.ref (gz g + b2)]) (rest := []) F I hr_b1 hk_b1 (by decide) kX7_181 (ctX0_become hr_b1 hk_b1 hr_b2 hk_b2 h) ⟨rfl, rfl⟩ ⟨Nat.le_of_ble_eq_true rfl, Nat.le_of_ble_eq_true rfl⟩ rfl hl.1 rfl (Nat.le_of_ble_eq_true rfl) ⟨Nat.le_of_ble_eq_true rfl, Nat.le_of_ble_eq_true rfl⟩ dX7_keep_8) (fun S H locs I h => ?_)
  refine lv_aload_n F.1 F.2.1 dX7_keep_11 rfl (lv_at hl 0 rfl) ?_
  refine lv_iconst (v := 1) F.1 F.2.1 dX7_keep_12 (by decide) ?_
  refine r_putI F I hr_a0 hk_a0 fX7_19 rfl (Or.inl rfl) ⟨by decide, by decide⟩ dX7_keep_13 h (fun S H locs I h => ?_)
  refine lv_aload_n F.1 F.2.1 dX7_keep_16 rfl (lv_at hl 0 rfl) ?_
  refine r_getN F I hr_a0 hk_a0 fX7_10 (f := 0) rfl (by decide) dX7_keep_17 h (fun b3 hr_b3 hk_b3 h => ?_)
  refine r_getI F I hr_b3 hk_b3 fX7_174 rfl dX7_keep_20 h (fun z4 h => ?_)
  exact r_ireturn F I ⟨hr.1, hr.2.1, trivial⟩ h dX7_keep_23
theorem bdX7_back_0 : ∀ q ∈ ([(0, .aload_n 0, 1), (1, .getfield 19, 3), (4, .ifCond .ne 7, 3), (7, .ldc_w 311, 3), (10, .ireturn, 1), (11, .aload_n 0, 1), (12, .getfield 10, 3), (15, .aload_n 0, 1), (16, .getfield 16, 3), (19, .invokevirtual 181, 3), (22, .aload_n 0, 1), (23, .getfield 10, 3), (26, .getfield 174, 3), (29, .ireturn, 1)] : List (Nat × Jvm.ClassFile.Instr × Nat)), decode cX7_back q.1 = .ok q.2 := chk_ok _ 0 _ rfl (by decide +kernel)
theorem dX7_back_0 : decode cX7_back 0 = .ok (.aload_n 0, 1) := bdX7_back_0 (0, .aload_n 0, 1) (List.mem_of_getElem? (i := 0) rfl)
theorem dX7_back_1 : decode cX7_back 1 = .ok (.getfield 19, 3) := bdX7_back_0 (1, .getfield 19, 3) (List.mem_of_getElem? (i := 1) rfl)
theorem dX7_back_4 : decode cX7_back 4 = .ok (.ifCond .ne 7, 3) := bdX7_back_0 (4, .ifCond .ne 7, 3) (List.mem_of_getElem? (i := 2) rfl)
theorem dX7_back_7 : decode cX7_back 7 = .ok (.ldc_w 311, 3) := bdX7_back_0 (7, .ldc_w 311, 3) (List.mem_of_getElem? (i := 3) rfl)
theorem dX7_back_10 : decode cX7_back 10 = .ok (.ireturn, 1) := bdX7_back_0 (10, .ireturn, 1) (List.mem_of_getElem? (i := 4) rfl)
theorem dX7_back_11 : decode cX7_back 11 = .ok (.aload_n 0, 1) := bdX7_back_0 (11, .aload_n 0, 1) (List.mem_of_getElem? (i := 5) rfl)
theorem dX7_back_12 : decode cX7_back 12 = .ok (.getfield 10, 3) := bdX7_back_0 (12, .getfield 10, 3) (List.mem_of_getElem? (i := 6) rfl)
theorem dX7_back_15 : decode cX7_back 15 = .ok (.aload_n 0, 1) := bdX7_back_0 (15, .aload_n 0, 1) (List.mem_of_getElem? (i := 7) rfl)
theorem dX7_back_16 : decode cX7_back 16 = .ok (.getfield 16, 3) := bdX7_back_0 (16, .getfield 16, 3) (List.mem_of_getElem? (i := 8) rfl)
theorem dX7_back_19 : decode cX7_back 19 = .ok (.invokevirtual 181, 3) := bdX7_back_0 (19, .invokevirtual 181, 3) (List.mem_of_getElem? (i := 9) rfl)
theorem dX7_back_22 : decode cX7_back 22 = .ok (.aload_n 0, 1) := bdX7_back_0 (22, .aload_n 0, 1) (List.mem_of_getElem? (i := 10) rfl)
theorem dX7_back_23 : decode cX7_back 23 = .ok (.getfield 10, 3) := bdX7_back_0 (23, .getfield 10, 3) (List.mem_of_getElem? (i := 11) rfl)
theorem dX7_back_26 : decode cX7_back 26 = .ok (.getfield 174, 3) := bdX7_back_0 (26, .getfield 174, 3) (List.mem_of_getElem? (i := 12) rfl)
theorem dX7_back_29 : decode cX7_back 29 = .ok (.ireturn, 1) := bdX7_back_0 (29, .ireturn, 1) (List.mem_of_getElem? (i := 13) rfl)
def wpX7_back (ln : Nat → Nat) (S : HC) (a0 : Nat) (post : Int32 → HC → Prop) : Prop := lt_ (hI S a0 2) fun z1 => if z1 = 0 then (post (-1000000002 : Int32) S) else (dn_ (hR S a0 0) fun b2 => dn_ (hR S a0 1) fun b3 => wpX0_become ln S b2 b3 fun S => dn_ (hR S a0 0) fun b4 => lt_ (hI S b4 6) fun z5 => post z5 S)
abbrev rmX7_back : Room := { frames := 1, cells := 0, slots := 0, locals := 22 }
set_option maxHeartbeats 4000000 in
set_option maxRecDepth 100000 in
theorem ctX7_back {l : Launch} {g : GX} {N : Nat} {ln : Nat → Nat} {S : HC} {a0 : Nat} {post : Int32 → HC → Prop} (hr_a0 : a0 < N) (hk_a0 : kd a0 = 7) (h : wpX7_back ln S a0 post) : Met l yX7_back (Cond.code yX7_back prog_1_method_41_code 1 (Option.some Jvm.ClassFile.FieldType.int) :: gtbl) rmX7_back (va_Pc [.ref (gz g + a0)] (AtP g N ln S)) (QI g N ln post) 0 0 (gF g) := by
  refine m_of (by decide) (Nat.le_of_ble_eq_true rfl) ?_
  intro p e s m below meth c ls F hr I hl
  have hl : lv_has ls 1 [(0, .ref (gz g + a0))] := hl
  unfold wpX7_back at h
  refine lv_aload_n F.1 F.2.1 dX7_back_0 rfl (lv_at hl 0 rfl) ?_
  refine r_getI F I hr_a0 hk_a0 fX7_19 rfl dX7_back_1 h (fun z1 h => ?_)
  refine r_if_ne (tgt := 11) F dX7_back_4 (by decide) h (fun h => ?_) (fun h => ?_)
  · refine lv_aload_n F.1 F.2.1 dX7_back_11 rfl (lv_at hl 0 rfl) ?_
    refine r_getN F I hr_a0 hk_a0 fX7_10 (f := 0) rfl (by decide) dX7_back_12 h (fun b2 hr_b2 hk_b2 h => ?_)
    refine lv_aload_n F.1 F.2.1 dX7_back_15 rfl (lv_at hl 0 rfl) ?_
    refine r_getN F I hr_a0 hk_a0 fX7_16 (f := 0) rfl (by decide) dX7_back_16 h (fun b3 hr_b3 hk_b3 h => ?_)
    refine g_V I (run_V (As := [.ref (gz g + b3)]) (rest := []) F I hr_b2 hk_b2 (by decide) kX7_181 (ctX0_become hr_b2 hk_b2 hr_b3 hk_b3 h) ⟨rfl, rfl⟩ ⟨Nat.le_of_ble_eq_true rfl, Nat.le_of_ble_eq_true rfl⟩ rfl hl.1 rfl (Nat.le_of_ble_eq_true rfl) ⟨Nat.le_of_ble_eq_true rfl, Nat.le_of_ble_eq_true rfl⟩ dX7_back_19) (fun S H locs I h => ?_)
    refine lv_aload_n F.1 F.2.1 dX7_back_22 rfl (lv_at hl 0 rfl) ?_
    refine r_getN F I hr_a0 hk_a0 fX7_10 (f := 0) rfl (by decide) dX7_back_23 h (fun b4 hr_b4 hk_b4 h => ?_)
    refine r_getI F I hr_b4 hk_b4 fX7_174 rfl dX7_back_26 h (fun z5 h => ?_)
    exact r_ireturn F I ⟨hr.1, hr.2.1, trivial⟩ h dX7_back_29
  · refine lv_ldcw F.1 F.2.1 F.2.2.2.1 (F.2.2.2.2 _ tw_902) dX7_back_7 ?_
    exact r_ireturn F I ⟨hr.1, hr.2.1, trivial⟩ h dX7_back_10
theorem bdX7_count_0 : ∀ q ∈ ([(0, .iload_n 1, 1), (48, .aload_n 0, 1), (49, .getfield 10, 3), (52, .getfield 174, 3), (55, .ireturn, 1), (56, .aload_n 0, 1), (57, .getfield 10, 3), (60, .getfield 138, 3), (63, .ireturn, 1), (64, .aload_n 0, 1), (65, .getfield 10, 3), (68, .getfield 129, 3), (71, .ireturn, 1), (72, .aload_n 0, 1), (73, .getfield 10, 3), (76, .invokevirtual 316, 3), (79, .ireturn, 1), (80, .aload_n 0, 1), (81, .getfield 10, 3), (84, .getfield 239, 3), (87, .ireturn, 1), (88, .aload_n 0, 1), (89, .getfield 56, 3), (92, .ireturn, 1), (93, .aload_n 0, 1), (94, .getfield 36, 3), (97, .getfield 221, 3), (100, .getfield 225, 3), (103, .ireturn, 1), (104, .aload_n 0, 1), (105, .getfield 10, 3), (108, .getfield 135, 3), (111, .ireturn, 1), (112, .ldc 73, 2), (114, .ireturn, 1)] : List (Nat × Jvm.ClassFile.Instr × Nat)), decode cX7_count q.1 = .ok q.2 := chk_ok _ 0 _ rfl (by decide +kernel)
theorem dX7_count_0 : decode cX7_count 0 = .ok (.iload_n 1, 1) := bdX7_count_0 (0, .iload_n 1, 1) (List.mem_of_getElem? (i := 0) rfl)
theorem dX7_count_48 : decode cX7_count 48 = .ok (.aload_n 0, 1) := bdX7_count_0 (48, .aload_n 0, 1) (List.mem_of_getElem? (i := 1) rfl)
theorem dX7_count_49 : decode cX7_count 49 = .ok (.getfield 10, 3) := bdX7_count_0 (49, .getfield 10, 3) (List.mem_of_getElem? (i := 2) rfl)
theorem dX7_count_52 : decode cX7_count 52 = .ok (.getfield 174, 3) := bdX7_count_0 (52, .getfield 174, 3) (List.mem_of_getElem? (i := 3) rfl)
theorem dX7_count_55 : decode cX7_count 55 = .ok (.ireturn, 1) := bdX7_count_0 (55, .ireturn, 1) (List.mem_of_getElem? (i := 4) rfl)
theorem dX7_count_56 : decode cX7_count 56 = .ok (.aload_n 0, 1) := bdX7_count_0 (56, .aload_n 0, 1) (List.mem_of_getElem? (i := 5) rfl)
theorem dX7_count_57 : decode cX7_count 57 = .ok (.getfield 10, 3) := bdX7_count_0 (57, .getfield 10, 3) (List.mem_of_getElem? (i := 6) rfl)
theorem dX7_count_60 : decode cX7_count 60 = .ok (.getfield 138, 3) := bdX7_count_0 (60, .getfield 138, 3) (List.mem_of_getElem? (i := 7) rfl)
theorem dX7_count_63 : decode cX7_count 63 = .ok (.ireturn, 1) := bdX7_count_0 (63, .ireturn, 1) (List.mem_of_getElem? (i := 8) rfl)
theorem dX7_count_64 : decode cX7_count 64 = .ok (.aload_n 0, 1) := bdX7_count_0 (64, .aload_n 0, 1) (List.mem_of_getElem? (i := 9) rfl)
theorem dX7_count_65 : decode cX7_count 65 = .ok (.getfield 10, 3) := bdX7_count_0 (65, .getfield 10, 3) (List.mem_of_getElem? (i := 10) rfl)
theorem dX7_count_68 : decode cX7_count 68 = .ok (.getfield 129, 3) := bdX7_count_0 (68, .getfield 129, 3) (List.mem_of_getElem? (i := 11) rfl)
theorem dX7_count_71 : decode cX7_count 71 = .ok (.ireturn, 1) := bdX7_count_0 (71, .ireturn, 1) (List.mem_of_getElem? (i := 12) rfl)
theorem dX7_count_72 : decode cX7_count 72 = .ok (.aload_n 0, 1) := bdX7_count_0 (72, .aload_n 0, 1) (List.mem_of_getElem? (i := 13) rfl)
theorem dX7_count_73 : decode cX7_count 73 = .ok (.getfield 10, 3) := bdX7_count_0 (73, .getfield 10, 3) (List.mem_of_getElem? (i := 14) rfl)
theorem dX7_count_76 : decode cX7_count 76 = .ok (.invokevirtual 316, 3) := bdX7_count_0 (76, .invokevirtual 316, 3) (List.mem_of_getElem? (i := 15) rfl)
theorem dX7_count_79 : decode cX7_count 79 = .ok (.ireturn, 1) := bdX7_count_0 (79, .ireturn, 1) (List.mem_of_getElem? (i := 16) rfl)
theorem dX7_count_80 : decode cX7_count 80 = .ok (.aload_n 0, 1) := bdX7_count_0 (80, .aload_n 0, 1) (List.mem_of_getElem? (i := 17) rfl)
theorem dX7_count_81 : decode cX7_count 81 = .ok (.getfield 10, 3) := bdX7_count_0 (81, .getfield 10, 3) (List.mem_of_getElem? (i := 18) rfl)
theorem dX7_count_84 : decode cX7_count 84 = .ok (.getfield 239, 3) := bdX7_count_0 (84, .getfield 239, 3) (List.mem_of_getElem? (i := 19) rfl)
theorem dX7_count_87 : decode cX7_count 87 = .ok (.ireturn, 1) := bdX7_count_0 (87, .ireturn, 1) (List.mem_of_getElem? (i := 20) rfl)
theorem dX7_count_88 : decode cX7_count 88 = .ok (.aload_n 0, 1) := bdX7_count_0 (88, .aload_n 0, 1) (List.mem_of_getElem? (i := 21) rfl)
theorem dX7_count_89 : decode cX7_count 89 = .ok (.getfield 56, 3) := bdX7_count_0 (89, .getfield 56, 3) (List.mem_of_getElem? (i := 22) rfl)
theorem dX7_count_92 : decode cX7_count 92 = .ok (.ireturn, 1) := bdX7_count_0 (92, .ireturn, 1) (List.mem_of_getElem? (i := 23) rfl)
theorem dX7_count_93 : decode cX7_count 93 = .ok (.aload_n 0, 1) := bdX7_count_0 (93, .aload_n 0, 1) (List.mem_of_getElem? (i := 24) rfl)
theorem dX7_count_94 : decode cX7_count 94 = .ok (.getfield 36, 3) := bdX7_count_0 (94, .getfield 36, 3) (List.mem_of_getElem? (i := 25) rfl)
theorem dX7_count_97 : decode cX7_count 97 = .ok (.getfield 221, 3) := bdX7_count_0 (97, .getfield 221, 3) (List.mem_of_getElem? (i := 26) rfl)
theorem dX7_count_100 : decode cX7_count 100 = .ok (.getfield 225, 3) := bdX7_count_0 (100, .getfield 225, 3) (List.mem_of_getElem? (i := 27) rfl)
theorem dX7_count_103 : decode cX7_count 103 = .ok (.ireturn, 1) := bdX7_count_0 (103, .ireturn, 1) (List.mem_of_getElem? (i := 28) rfl)
theorem dX7_count_104 : decode cX7_count 104 = .ok (.aload_n 0, 1) := bdX7_count_0 (104, .aload_n 0, 1) (List.mem_of_getElem? (i := 29) rfl)
theorem dX7_count_105 : decode cX7_count 105 = .ok (.getfield 10, 3) := bdX7_count_0 (105, .getfield 10, 3) (List.mem_of_getElem? (i := 30) rfl)
theorem dX7_count_108 : decode cX7_count 108 = .ok (.getfield 135, 3) := bdX7_count_0 (108, .getfield 135, 3) (List.mem_of_getElem? (i := 31) rfl)
theorem dX7_count_111 : decode cX7_count 111 = .ok (.ireturn, 1) := bdX7_count_0 (111, .ireturn, 1) (List.mem_of_getElem? (i := 32) rfl)
theorem dX7_count_112 : decode cX7_count 112 = .ok (.ldc 73, 2) := bdX7_count_0 (112, .ldc 73, 2) (List.mem_of_getElem? (i := 33) rfl)
theorem dX7_count_114 : decode cX7_count 114 = .ok (.ireturn, 1) := bdX7_count_0 (114, .ireturn, 1) (List.mem_of_getElem? (i := 34) rfl)
theorem dX7_count_1 : decode cX7_count 1 = .ok (.tableswitch 111 0 7 #[47, 55, 63, 71, 79, 87, 92, 103], 47) := by decide +kernel
theorem kX7_316 : mthV RX7 316 0 yX0_founders prog_2_method_13_code 3 (Option.some Jvm.ClassFile.FieldType.int) 0 := ⟨⟨⟨tw_927, tw_61, tw_930⟩, rfl, by decide +kernel⟩, tw_928, tw_929, rfl⟩
def wpX7_count (ln : Nat → Nat) (S : HC) (a0 : Nat) (a1 : Int32) (post : Int32 → HC → Prop) : Prop := if a1 = (0 : Int32) then (dn_ (hR S a0 0) fun b1 => lt_ (hI S b1 6) fun z2 => post z2 S) else if a1 = (1 : Int32) then (dn_ (hR S a0 0) fun b3 => lt_ (hI S b3 8) fun z4 => post z4 S) else if a1 = (2 : Int32) then (dn_ (hR S a0 0) fun b5 => lt_ (hI S b5 7) fun z6 => post z6 S) else if a1 = (3 : Int32) then (dn_ (hR S a0 0) fun b7 => wpX0_founders ln S b7 fun z8 S => post z8 S) else if a1 = (4 : Int32) then (dn_ (hR S a0 0) fun b9 => lt_ (hI S b9 11) fun z10 => post z10 S) else if a1 = (5 : Int32) then (lt_ (hI S a0 9) fun z11 => post z11 S) else if a1 = (6 : Int32) then (dn_ (hR S a0 5) fun b12 => dn_ (hR S b12 0) fun b13 => lt_ (hI S b13 1) fun z14 => post z14 S) else if a1 = (7 : Int32) then (dn_ (hR S a0 0) fun b15 => lt_ (hI S b15 9) fun z16 => post z16 S) else post (-1000000001 : Int32) S
abbrev rmX7_count : Room := { frames := 1, cells := 0, slots := 0, locals := 22 }
set_option maxHeartbeats 4000000 in
set_option maxRecDepth 100000 in
theorem ctX7_count {l : Launch} {g : GX} {N : Nat} {ln : Nat → Nat} {S : HC} {a0 : Nat} {a1 : Int32} {post : Int32 → HC → Prop} (hr_a0 : a0 < N) (hk_a0 : kd a0 = 7) (h : wpX7_count ln S a0 a1 post) : Met l yX7_count (Cond.code yX7_count prog_1_method_42_code 2 (Option.some Jvm.ClassFile.FieldType.int) :: gtbl) rmX7_count (va_Pc [.ref (gz g + a0), .int a1] (AtP g N ln S)) (QI g N ln post) 0 0 (gF g) := by
  refine m_of (by decide) (Nat.le_of_ble_eq_true rfl) ?_
  intro p e s m below meth c ls F hr I hl
  have hl : lv_has ls 2 [(0, .ref (gz g + a0)), (1, .int a1)] := hl
  unfold wpX7_count at h
  refine lv_iload_n F.1 F.2.1 dX7_count_0 rfl (lv_at hl 1 rfl) ?_
  by_cases c0 : a1 = (0 : Int32)
  · rw [if_pos c0] at h
    refine lv_tableIn (off := 47) (tgt := 48) F.1 F.2.1 dX7_count_1 (by rw [c0]; decide) (by rw [c0]; decide) (by rw [c0]; rfl) (by decide) ?_
    refine lv_aload_n F.1 F.2.1 dX7_count_48 rfl (lv_at hl 0 rfl) ?_
    refine r_getN F I hr_a0 hk_a0 fX7_10 (f := 0) rfl (by decide) dX7_count_49 h (fun b1 hr_b1 hk_b1 h => ?_)
    refine r_getI F I hr_b1 hk_b1 fX7_174 rfl dX7_count_52 h (fun z2 h => ?_)
    exact r_ireturn F I ⟨hr.1, hr.2.1, trivial⟩ h dX7_count_55
  · rw [if_neg c0] at h
    by_cases c1 : a1 = (1 : Int32)
    · rw [if_pos c1] at h
      refine lv_tableIn (off := 55) (tgt := 56) F.1 F.2.1 dX7_count_1 (by rw [c1]; decide) (by rw [c1]; decide) (by rw [c1]; rfl) (by decide) ?_
      refine lv_aload_n F.1 F.2.1 dX7_count_56 rfl (lv_at hl 0 rfl) ?_
      refine r_getN F I hr_a0 hk_a0 fX7_10 (f := 0) rfl (by decide) dX7_count_57 h (fun b3 hr_b3 hk_b3 h => ?_)
      refine r_getI F I hr_b3 hk_b3 fX7_138 rfl dX7_count_60 h (fun z4 h => ?_)
      exact r_ireturn F I ⟨hr.1, hr.2.1, trivial⟩ h dX7_count_63
    · rw [if_neg c1] at h
      by_cases c2 : a1 = (2 : Int32)
      · rw [if_pos c2] at h
        refine lv_tableIn (off := 63) (tgt := 64) F.1 F.2.1 dX7_count_1 (by rw [c2]; decide) (by rw [c2]; decide) (by rw [c2]; rfl) (by decide) ?_
        refine lv_aload_n F.1 F.2.1 dX7_count_64 rfl (lv_at hl 0 rfl) ?_
        refine r_getN F I hr_a0 hk_a0 fX7_10 (f := 0) rfl (by decide) dX7_count_65 h (fun b5 hr_b5 hk_b5 h => ?_)
        refine r_getI F I hr_b5 hk_b5 fX7_129 rfl dX7_count_68 h (fun z6 h => ?_)
        exact r_ireturn F I ⟨hr.1, hr.2.1, trivial⟩ h dX7_count_71
      · rw [if_neg c2] at h
        by_cases c3 : a1 = (3 : Int32)
        · rw [if_pos c3] at h
          refine lv_tableIn (off := 71) (tgt := 72) F.1 F.2.1 dX7_count_1 (by rw [c3]; decide) (by rw [c3]; decide) (by rw [c3]; rfl) (by decide) ?_
          refine lv_aload_n F.1 F.2.1 dX7_count_72 rfl (lv_at hl 0 rfl) ?_
          refine r_getN F I hr_a0 hk_a0 fX7_10 (f := 0) rfl (by decide) dX7_count_73 h (fun b7 hr_b7 hk_b7 h => ?_)
          refine g_I I (run_V (As := []) (rest := []) F I hr_b7 hk_b7 (by decide) kX7_316 (ctX0_founders hr_b7 hk_b7 h) ⟨rfl, rfl⟩ ⟨Nat.le_of_ble_eq_true rfl, Nat.le_of_ble_eq_true rfl⟩ rfl hl.1 rfl (Nat.le_of_ble_eq_true rfl) ⟨Nat.le_of_ble_eq_true rfl, Nat.le_of_ble_eq_true rfl⟩ dX7_count_76) (fun z8 S H locs I h => ?_)
          exact r_ireturn F I ⟨hr.1, hr.2.1, trivial⟩ h dX7_count_79
        · rw [if_neg c3] at h
          by_cases c4 : a1 = (4 : Int32)
          · rw [if_pos c4] at h
            refine lv_tableIn (off := 79) (tgt := 80) F.1 F.2.1 dX7_count_1 (by rw [c4]; decide) (by rw [c4]; decide) (by rw [c4]; rfl) (by decide) ?_
            refine lv_aload_n F.1 F.2.1 dX7_count_80 rfl (lv_at hl 0 rfl) ?_
            refine r_getN F I hr_a0 hk_a0 fX7_10 (f := 0) rfl (by decide) dX7_count_81 h (fun b9 hr_b9 hk_b9 h => ?_)
            refine r_getI F I hr_b9 hk_b9 fX7_239 rfl dX7_count_84 h (fun z10 h => ?_)
            exact r_ireturn F I ⟨hr.1, hr.2.1, trivial⟩ h dX7_count_87
          · rw [if_neg c4] at h
            by_cases c5 : a1 = (5 : Int32)
            · rw [if_pos c5] at h
              refine lv_tableIn (off := 87) (tgt := 88) F.1 F.2.1 dX7_count_1 (by rw [c5]; decide) (by rw [c5]; decide) (by rw [c5]; rfl) (by decide) ?_
              refine lv_aload_n F.1 F.2.1 dX7_count_88 rfl (lv_at hl 0 rfl) ?_
              refine r_getI F I hr_a0 hk_a0 fX7_56 rfl dX7_count_89 h (fun z11 h => ?_)
              exact r_ireturn F I ⟨hr.1, hr.2.1, trivial⟩ h dX7_count_92
            · rw [if_neg c5] at h
              by_cases c6 : a1 = (6 : Int32)
              · rw [if_pos c6] at h
                refine lv_tableIn (off := 92) (tgt := 93) F.1 F.2.1 dX7_count_1 (by rw [c6]; decide) (by rw [c6]; decide) (by rw [c6]; rfl) (by decide) ?_
                refine lv_aload_n F.1 F.2.1 dX7_count_93 rfl (lv_at hl 0 rfl) ?_
                refine r_getN F I hr_a0 hk_a0 fX7_36 (f := 2) rfl (by decide) dX7_count_94 h (fun b12 hr_b12 hk_b12 h => ?_)
                refine r_getN F I hr_b12 hk_b12 fX7_221 (f := 6) rfl (by decide) dX7_count_97 h (fun b13 hr_b13 hk_b13 h => ?_)
                refine r_getI F I hr_b13 hk_b13 fX7_225 rfl dX7_count_100 h (fun z14 h => ?_)
                exact r_ireturn F I ⟨hr.1, hr.2.1, trivial⟩ h dX7_count_103
              · rw [if_neg c6] at h
                by_cases c7 : a1 = (7 : Int32)
                · rw [if_pos c7] at h
                  refine lv_tableIn (off := 103) (tgt := 104) F.1 F.2.1 dX7_count_1 (by rw [c7]; decide) (by rw [c7]; decide) (by rw [c7]; rfl) (by decide) ?_
                  refine lv_aload_n F.1 F.2.1 dX7_count_104 rfl (lv_at hl 0 rfl) ?_
                  refine r_getN F I hr_a0 hk_a0 fX7_10 (f := 0) rfl (by decide) dX7_count_105 h (fun b15 hr_b15 hk_b15 h => ?_)
                  refine r_getI F I hr_b15 hk_b15 fX7_135 rfl dX7_count_108 h (fun z16 h => ?_)
                  exact r_ireturn F I ⟨hr.1, hr.2.1, trivial⟩ h dX7_count_111
                · rw [if_neg c7] at h
                  have e0 := lv_neT (a := 0) c0 (by decide)
                  have e1 := lv_neT (a := 1) c1 (by decide)
                  have e2 := lv_neT (a := 2) c2 (by decide)
                  have e3 := lv_neT (a := 3) c3 (by decide)
                  have e4 := lv_neT (a := 4) c4 (by decide)
                  have e5 := lv_neT (a := 5) c5 (by decide)
                  have e6 := lv_neT (a := 6) c6 (by decide)
                  have e7 := lv_neT (a := 7) c7 (by decide)
                  refine lv_tableOut (tgt := 112) F.1 F.2.1 dX7_count_1 (by omega) (by decide) ?_
                  refine lv_ldc F.1 F.2.1 F.2.2.2.1 (F.2.2.2.2 _ tw_334) dX7_count_112 ?_
                  exact r_ireturn F I ⟨hr.1, hr.2.1, trivial⟩ h dX7_count_114
