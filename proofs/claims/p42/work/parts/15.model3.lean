theorem bdX8_isLetter_0 : ∀ q ∈ ([(0, .iload_n 1, 1), (1, .aload_n 0, 1), (2, .getfield 190, 3), (5, .if_icmp .ge 29, 3), (8, .aload_n 0, 1), (9, .getfield 25, 3), (12, .iload_n 1, 1), (13, .iaload, 1), (14, .bipush 97, 2), (16, .if_icmp .lt 18, 3), (19, .aload_n 0, 1), (20, .getfield 25, 3), (23, .iload_n 1, 1), (24, .iaload, 1), (25, .bipush 122, 2), (27, .if_icmp .gt 7, 3), (30, .iconst 1, 1), (31, .goto 4, 3), (34, .iconst 0, 1), (35, .ireturn, 1)] : List (Nat × Jvm.ClassFile.Instr × Nat)), decode cX8_isLetter q.1 = .ok q.2 := chk_ok _ 0 _ rfl (by decide +kernel)
theorem dX8_isLetter_0 : decode cX8_isLetter 0 = .ok (.iload_n 1, 1) := bdX8_isLetter_0 (0, .iload_n 1, 1) (List.mem_of_getElem? (i := 0) rfl)
theorem dX8_isLetter_1 : decode cX8_isLetter 1 = .ok (.aload_n 0, 1) := bdX8_isLetter_0 (1, .aload_n 0, 1) (List.mem_of_getElem? (i := 1) rfl)
theorem dX8_isLetter_2 : decode cX8_isLetter 2 = .ok (.getfield 190, 3) := bdX8_isLetter_0 (2, .getfield 190, 3) (List.mem_of_getElem? (i := 2) rfl)
theorem dX8_isLetter_5 : decode cX8_isLetter 5 = .ok (.if_icmp .ge 29, 3) := bdX8_isLetter_0 (5, .if_icmp .ge 29, 3) (List.mem_of_getElem? (i := 3) rfl)
theorem dX8_isLetter_8 : decode cX8_isLetter 8 = .ok (.aload_n 0, 1) := bdX8_isLetter_0 (8, .aload_n 0, 1) (List.mem_of_getElem? (i := 4) rfl)
theorem dX8_isLetter_9 : decode cX8_isLetter 9 = .ok (.getfield 25, 3) := bdX8_isLetter_0 (9, .getfield 25, 3) (List.mem_of_getElem? (i := 5) rfl)
theorem dX8_isLetter_12 : decode cX8_isLetter 12 = .ok (.iload_n 1, 1) := bdX8_isLetter_0 (12, .iload_n 1, 1) (List.mem_of_getElem? (i := 6) rfl)
theorem dX8_isLetter_13 : decode cX8_isLetter 13 = .ok (.iaload, 1) := bdX8_isLetter_0 (13, .iaload, 1) (List.mem_of_getElem? (i := 7) rfl)
theorem dX8_isLetter_14 : decode cX8_isLetter 14 = .ok (.bipush 97, 2) := bdX8_isLetter_0 (14, .bipush 97, 2) (List.mem_of_getElem? (i := 8) rfl)
theorem dX8_isLetter_16 : decode cX8_isLetter 16 = .ok (.if_icmp .lt 18, 3) := bdX8_isLetter_0 (16, .if_icmp .lt 18, 3) (List.mem_of_getElem? (i := 9) rfl)
theorem dX8_isLetter_19 : decode cX8_isLetter 19 = .ok (.aload_n 0, 1) := bdX8_isLetter_0 (19, .aload_n 0, 1) (List.mem_of_getElem? (i := 10) rfl)
theorem dX8_isLetter_20 : decode cX8_isLetter 20 = .ok (.getfield 25, 3) := bdX8_isLetter_0 (20, .getfield 25, 3) (List.mem_of_getElem? (i := 11) rfl)
theorem dX8_isLetter_23 : decode cX8_isLetter 23 = .ok (.iload_n 1, 1) := bdX8_isLetter_0 (23, .iload_n 1, 1) (List.mem_of_getElem? (i := 12) rfl)
theorem dX8_isLetter_24 : decode cX8_isLetter 24 = .ok (.iaload, 1) := bdX8_isLetter_0 (24, .iaload, 1) (List.mem_of_getElem? (i := 13) rfl)
theorem dX8_isLetter_25 : decode cX8_isLetter 25 = .ok (.bipush 122, 2) := bdX8_isLetter_0 (25, .bipush 122, 2) (List.mem_of_getElem? (i := 14) rfl)
theorem dX8_isLetter_27 : decode cX8_isLetter 27 = .ok (.if_icmp .gt 7, 3) := bdX8_isLetter_0 (27, .if_icmp .gt 7, 3) (List.mem_of_getElem? (i := 15) rfl)
theorem dX8_isLetter_30 : decode cX8_isLetter 30 = .ok (.iconst 1, 1) := bdX8_isLetter_0 (30, .iconst 1, 1) (List.mem_of_getElem? (i := 16) rfl)
theorem dX8_isLetter_31 : decode cX8_isLetter 31 = .ok (.goto 4, 3) := bdX8_isLetter_0 (31, .goto 4, 3) (List.mem_of_getElem? (i := 17) rfl)
theorem dX8_isLetter_34 : decode cX8_isLetter 34 = .ok (.iconst 0, 1) := bdX8_isLetter_0 (34, .iconst 0, 1) (List.mem_of_getElem? (i := 18) rfl)
theorem dX8_isLetter_35 : decode cX8_isLetter 35 = .ok (.ireturn, 1) := bdX8_isLetter_0 (35, .ireturn, 1) (List.mem_of_getElem? (i := 19) rfl)
def BX8_isLetter_34 (ln : Nat → Nat) (post : Int32 → HC → Prop) (S : HC)  : Prop := rb_ .boolean (0 : Int32) (post (0 : Int32) S)
def wpX8_isLetter (ln : Nat → Nat) (S : HC) (a0 : Nat) (a1 : Int32) (post : Int32 → HC → Prop) : Prop := lt_ (hI S a0 7) fun z1 => if z1 ≤ a1 then (BX8_isLetter_34 ln post S) else (dn_ (hR S a0 6) fun b2 => al_ (ln b2) a1 (hI S b2) fun z3 => if z3 < (97 : Int32) then (BX8_isLetter_34 ln post S) else (dn_ (hR S a0 6) fun b4 => al_ (ln b4) a1 (hI S b4) fun z5 => if (122 : Int32) < z5 then (BX8_isLetter_34 ln post S) else (rb_ .boolean (1 : Int32) (post (1 : Int32) S))))
abbrev rmX8_isLetter : Room := { frames := 0, cells := 0, slots := 0, locals := 0 }
set_option maxHeartbeats 4000000 in
set_option maxRecDepth 100000 in
theorem ctX8_isLetter {l : Launch} {g : GX} {N : Nat} {ln : Nat → Nat} {S : HC} {a0 : Nat} {a1 : Int32} {post : Int32 → HC → Prop} (hr_a0 : a0 < N) (hk_a0 : kd a0 = 8) (h : wpX8_isLetter ln S a0 a1 post) : Met l yX8_isLetter (Cond.code yX8_isLetter prog_10_method_56_code 2 (Option.some Jvm.ClassFile.FieldType.boolean) :: gtbl) rmX8_isLetter (va_Pc [.ref (gz g + a0), .int a1] (AtP g N ln S)) (QI g N ln post) 0 0 (gF g) := by
  refine m_of (by decide) (Nat.le_of_ble_eq_true rfl) ?_
  intro p e s m below meth c ls F hr I hl
  have hl : lv_has ls 2 [(0, .ref (gz g + a0)), (1, .int a1)] := hl
  unfold wpX8_isLetter at h
  have hj_34 : ∀ (S : HC) (H : Heap) (locs : List Loc) (ls : Array Slot), BX8_isLetter_34 ln post S  → Inv g N ln S s H locs → lv_has ls 2 [] → W p l e rmX8_isLetter s m ([.ref (gz g + a0), .int a1] : List Value).toArray below meth c H locs 0 0 (MQ below (QI g N ln post) ([.ref (gz g + a0), .int a1] : List Value).toArray s 0 0 (gF g)) (F0 m 34 ls []) := by
    intro S H locs ls h I hl
    unfold BX8_isLetter_34 at h
    refine lv_iconst (v := 0) F.1 F.2.1 dX8_isLetter_34 (by decide) ?_
    exact r_zreturn F I ⟨hr.1, hr.2.1, trivial⟩ h dX8_isLetter_35
  refine lv_iload_n F.1 F.2.1 dX8_isLetter_0 rfl (lv_at hl 1 rfl) ?_
  refine lv_aload_n F.1 F.2.1 dX8_isLetter_1 rfl (lv_at hl 0 rfl) ?_
  refine r_getI F I hr_a0 hk_a0 fX8_190 rfl dX8_isLetter_2 h (fun z1 h => ?_)
  refine r_icmp_ge (tgt := 34) F dX8_isLetter_5 (by decide) h (fun h => ?_) (fun h => ?_)
  · exact hj_34 S _ _ _   h I (lv_sub hl [] rfl)
  · refine lv_aload_n F.1 F.2.1 dX8_isLetter_8 rfl (lv_at hl 0 rfl) ?_
    refine r_getN F I hr_a0 hk_a0 fX8_25 (f := 9) rfl (by decide) dX8_isLetter_9 h (fun b2 hr_b2 hk_b2 h => ?_)
    refine lv_iload_n F.1 F.2.1 dX8_isLetter_12 rfl (lv_at hl 1 rfl) ?_
    refine r_ald F I hr_b2 hk_b2 dX8_isLetter_13 h (fun z3 h => ?_)
    refine lv_bipush (v := 97) F.1 F.2.1 dX8_isLetter_14 (by decide) ?_
    refine r_icmp_lt (tgt := 34) F dX8_isLetter_16 (by decide) h (fun h => ?_) (fun h => ?_)
    · exact hj_34 S _ _ _   h I (lv_sub hl [] rfl)
    · refine lv_aload_n F.1 F.2.1 dX8_isLetter_19 rfl (lv_at hl 0 rfl) ?_
      refine r_getN F I hr_a0 hk_a0 fX8_25 (f := 9) rfl (by decide) dX8_isLetter_20 h (fun b4 hr_b4 hk_b4 h => ?_)
      refine lv_iload_n F.1 F.2.1 dX8_isLetter_23 rfl (lv_at hl 1 rfl) ?_
      refine r_ald F I hr_b4 hk_b4 dX8_isLetter_24 h (fun z5 h => ?_)
      refine lv_bipush (v := 122) F.1 F.2.1 dX8_isLetter_25 (by decide) ?_
      refine r_icmp_gt (tgt := 34) F dX8_isLetter_27 (by decide) h (fun h => ?_) (fun h => ?_)
      · exact hj_34 S _ _ _   h I (lv_sub hl [] rfl)
      · refine lv_iconst (v := 1) F.1 F.2.1 dX8_isLetter_30 (by decide) ?_
        refine lv_goto (tgt := 35) F.1 F.2.1 dX8_isLetter_31 (by decide) ?_
        exact r_zreturn F I ⟨hr.1, hr.2.1, trivial⟩ h dX8_isLetter_35
theorem bdX8_isFigure_0 : ∀ q ∈ ([(0, .iload_n 1, 1), (1, .aload_n 0, 1), (2, .getfield 190, 3), (5, .if_icmp .ge 29, 3), (8, .aload_n 0, 1), (9, .getfield 25, 3), (12, .iload_n 1, 1), (13, .iaload, 1), (14, .bipush 48, 2), (16, .if_icmp .lt 18, 3), (19, .aload_n 0, 1), (20, .getfield 25, 3), (23, .iload_n 1, 1), (24, .iaload, 1), (25, .bipush 57, 2), (27, .if_icmp .gt 7, 3), (30, .iconst 1, 1), (31, .goto 4, 3), (34, .iconst 0, 1), (35, .ireturn, 1)] : List (Nat × Jvm.ClassFile.Instr × Nat)), decode cX8_isFigure q.1 = .ok q.2 := chk_ok _ 0 _ rfl (by decide +kernel)
theorem dX8_isFigure_0 : decode cX8_isFigure 0 = .ok (.iload_n 1, 1) := bdX8_isFigure_0 (0, .iload_n 1, 1) (List.mem_of_getElem? (i := 0) rfl)
theorem dX8_isFigure_1 : decode cX8_isFigure 1 = .ok (.aload_n 0, 1) := bdX8_isFigure_0 (1, .aload_n 0, 1) (List.mem_of_getElem? (i := 1) rfl)
theorem dX8_isFigure_2 : decode cX8_isFigure 2 = .ok (.getfield 190, 3) := bdX8_isFigure_0 (2, .getfield 190, 3) (List.mem_of_getElem? (i := 2) rfl)
theorem dX8_isFigure_5 : decode cX8_isFigure 5 = .ok (.if_icmp .ge 29, 3) := bdX8_isFigure_0 (5, .if_icmp .ge 29, 3) (List.mem_of_getElem? (i := 3) rfl)
theorem dX8_isFigure_8 : decode cX8_isFigure 8 = .ok (.aload_n 0, 1) := bdX8_isFigure_0 (8, .aload_n 0, 1) (List.mem_of_getElem? (i := 4) rfl)
theorem dX8_isFigure_9 : decode cX8_isFigure 9 = .ok (.getfield 25, 3) := bdX8_isFigure_0 (9, .getfield 25, 3) (List.mem_of_getElem? (i := 5) rfl)
theorem dX8_isFigure_12 : decode cX8_isFigure 12 = .ok (.iload_n 1, 1) := bdX8_isFigure_0 (12, .iload_n 1, 1) (List.mem_of_getElem? (i := 6) rfl)
theorem dX8_isFigure_13 : decode cX8_isFigure 13 = .ok (.iaload, 1) := bdX8_isFigure_0 (13, .iaload, 1) (List.mem_of_getElem? (i := 7) rfl)
theorem dX8_isFigure_14 : decode cX8_isFigure 14 = .ok (.bipush 48, 2) := bdX8_isFigure_0 (14, .bipush 48, 2) (List.mem_of_getElem? (i := 8) rfl)
theorem dX8_isFigure_16 : decode cX8_isFigure 16 = .ok (.if_icmp .lt 18, 3) := bdX8_isFigure_0 (16, .if_icmp .lt 18, 3) (List.mem_of_getElem? (i := 9) rfl)
theorem dX8_isFigure_19 : decode cX8_isFigure 19 = .ok (.aload_n 0, 1) := bdX8_isFigure_0 (19, .aload_n 0, 1) (List.mem_of_getElem? (i := 10) rfl)
theorem dX8_isFigure_20 : decode cX8_isFigure 20 = .ok (.getfield 25, 3) := bdX8_isFigure_0 (20, .getfield 25, 3) (List.mem_of_getElem? (i := 11) rfl)
theorem dX8_isFigure_23 : decode cX8_isFigure 23 = .ok (.iload_n 1, 1) := bdX8_isFigure_0 (23, .iload_n 1, 1) (List.mem_of_getElem? (i := 12) rfl)
theorem dX8_isFigure_24 : decode cX8_isFigure 24 = .ok (.iaload, 1) := bdX8_isFigure_0 (24, .iaload, 1) (List.mem_of_getElem? (i := 13) rfl)
theorem dX8_isFigure_25 : decode cX8_isFigure 25 = .ok (.bipush 57, 2) := bdX8_isFigure_0 (25, .bipush 57, 2) (List.mem_of_getElem? (i := 14) rfl)
theorem dX8_isFigure_27 : decode cX8_isFigure 27 = .ok (.if_icmp .gt 7, 3) := bdX8_isFigure_0 (27, .if_icmp .gt 7, 3) (List.mem_of_getElem? (i := 15) rfl)
theorem dX8_isFigure_30 : decode cX8_isFigure 30 = .ok (.iconst 1, 1) := bdX8_isFigure_0 (30, .iconst 1, 1) (List.mem_of_getElem? (i := 16) rfl)
theorem dX8_isFigure_31 : decode cX8_isFigure 31 = .ok (.goto 4, 3) := bdX8_isFigure_0 (31, .goto 4, 3) (List.mem_of_getElem? (i := 17) rfl)
theorem dX8_isFigure_34 : decode cX8_isFigure 34 = .ok (.iconst 0, 1) := bdX8_isFigure_0 (34, .iconst 0, 1) (List.mem_of_getElem? (i := 18) rfl)
theorem dX8_isFigure_35 : decode cX8_isFigure 35 = .ok (.ireturn, 1) := bdX8_isFigure_0 (35, .ireturn, 1) (List.mem_of_getElem? (i := 19) rfl)
def BX8_isFigure_34 (ln : Nat → Nat) (post : Int32 → HC → Prop) (S : HC)  : Prop := rb_ .boolean (0 : Int32) (post (0 : Int32) S)
def wpX8_isFigure (ln : Nat → Nat) (S : HC) (a0 : Nat) (a1 : Int32) (post : Int32 → HC → Prop) : Prop := lt_ (hI S a0 7) fun z1 => if z1 ≤ a1 then (BX8_isFigure_34 ln post S) else (dn_ (hR S a0 6) fun b2 => al_ (ln b2) a1 (hI S b2) fun z3 => if z3 < (48 : Int32) then (BX8_isFigure_34 ln post S) else (dn_ (hR S a0 6) fun b4 => al_ (ln b4) a1 (hI S b4) fun z5 => if (57 : Int32) < z5 then (BX8_isFigure_34 ln post S) else (rb_ .boolean (1 : Int32) (post (1 : Int32) S))))
abbrev rmX8_isFigure : Room := { frames := 0, cells := 0, slots := 0, locals := 0 }
set_option maxHeartbeats 4000000 in
set_option maxRecDepth 100000 in
theorem ctX8_isFigure {l : Launch} {g : GX} {N : Nat} {ln : Nat → Nat} {S : HC} {a0 : Nat} {a1 : Int32} {post : Int32 → HC → Prop} (hr_a0 : a0 < N) (hk_a0 : kd a0 = 8) (h : wpX8_isFigure ln S a0 a1 post) : Met l yX8_isFigure (Cond.code yX8_isFigure prog_10_method_57_code 2 (Option.some Jvm.ClassFile.FieldType.boolean) :: gtbl) rmX8_isFigure (va_Pc [.ref (gz g + a0), .int a1] (AtP g N ln S)) (QI g N ln post) 0 0 (gF g) := by
  refine m_of (by decide) (Nat.le_of_ble_eq_true rfl) ?_
  intro p e s m below meth c ls F hr I hl
  have hl : lv_has ls 2 [(0, .ref (gz g + a0)), (1, .int a1)] := hl
  unfold wpX8_isFigure at h
  have hj_34 : ∀ (S : HC) (H : Heap) (locs : List Loc) (ls : Array Slot), BX8_isFigure_34 ln post S  → Inv g N ln S s H locs → lv_has ls 2 [] → W p l e rmX8_isFigure s m ([.ref (gz g + a0), .int a1] : List Value).toArray below meth c H locs 0 0 (MQ below (QI g N ln post) ([.ref (gz g + a0), .int a1] : List Value).toArray s 0 0 (gF g)) (F0 m 34 ls []) := by
    intro S H locs ls h I hl
    unfold BX8_isFigure_34 at h
    refine lv_iconst (v := 0) F.1 F.2.1 dX8_isFigure_34 (by decide) ?_
    exact r_zreturn F I ⟨hr.1, hr.2.1, trivial⟩ h dX8_isFigure_35
  refine lv_iload_n F.1 F.2.1 dX8_isFigure_0 rfl (lv_at hl 1 rfl) ?_
  refine lv_aload_n F.1 F.2.1 dX8_isFigure_1 rfl (lv_at hl 0 rfl) ?_
  refine r_getI F I hr_a0 hk_a0 fX8_190 rfl dX8_isFigure_2 h (fun z1 h => ?_)
  refine r_icmp_ge (tgt := 34) F dX8_isFigure_5 (by decide) h (fun h => ?_) (fun h => ?_)
  · exact hj_34 S _ _ _   h I (lv_sub hl [] rfl)
  · refine lv_aload_n F.1 F.2.1 dX8_isFigure_8 rfl (lv_at hl 0 rfl) ?_
    refine r_getN F I hr_a0 hk_a0 fX8_25 (f := 9) rfl (by decide) dX8_isFigure_9 h (fun b2 hr_b2 hk_b2 h => ?_)
    refine lv_iload_n F.1 F.2.1 dX8_isFigure_12 rfl (lv_at hl 1 rfl) ?_
    refine r_ald F I hr_b2 hk_b2 dX8_isFigure_13 h (fun z3 h => ?_)
    refine lv_bipush (v := 48) F.1 F.2.1 dX8_isFigure_14 (by decide) ?_
    refine r_icmp_lt (tgt := 34) F dX8_isFigure_16 (by decide) h (fun h => ?_) (fun h => ?_)
    · exact hj_34 S _ _ _   h I (lv_sub hl [] rfl)
    · refine lv_aload_n F.1 F.2.1 dX8_isFigure_19 rfl (lv_at hl 0 rfl) ?_
      refine r_getN F I hr_a0 hk_a0 fX8_25 (f := 9) rfl (by decide) dX8_isFigure_20 h (fun b4 hr_b4 hk_b4 h => ?_)
      refine lv_iload_n F.1 F.2.1 dX8_isFigure_23 rfl (lv_at hl 1 rfl) ?_
      refine r_ald F I hr_b4 hk_b4 dX8_isFigure_24 h (fun z5 h => ?_)
      refine lv_bipush (v := 57) F.1 F.2.1 dX8_isFigure_25 (by decide) ?_
      refine r_icmp_gt (tgt := 34) F dX8_isFigure_27 (by decide) h (fun h => ?_) (fun h => ?_)
      · exact hj_34 S _ _ _   h I (lv_sub hl [] rfl)
      · refine lv_iconst (v := 1) F.1 F.2.1 dX8_isFigure_30 (by decide) ?_
        refine lv_goto (tgt := 35) F.1 F.2.1 dX8_isFigure_31 (by decide) ?_
        exact r_zreturn F I ⟨hr.1, hr.2.1, trivial⟩ h dX8_isFigure_35
theorem bdX8_go_0 : ∀ q ∈ ([(0, .aload_n 0, 1), (1, .getfield 194, 3), (4, .aload_n 0, 1), (5, .getfield 190, 3), (8, .if_icmp .ge 30, 3), (11, .aload_n 0, 1), (12, .getfield 25, 3), (15, .aload_n 0, 1), (16, .getfield 194, 3), (19, .iaload, 1), (20, .bipush 32, 2), (22, .if_icmp .ne 16, 3), (25, .aload_n 0, 1), (26, .dup, 1), (27, .getfield 194, 3), (30, .iconst 1, 1), (31, .iadd, 1), (32, .putfield 194, 3), (35, .goto (-35), 3), (38, .aload_n 0, 1), (39, .aload_n 0, 1), (40, .getfield 194, 3), (43, .putfield 197, 3), (46, .aload_n 0, 1), (47, .getfield 197, 3), (50, .aload_n 0, 1), (51, .getfield 200, 3), (54, .if_icmp .ne 7, 3), (57, .iconst 1, 1), (58, .goto 4, 3), (61, .iconst 0, 1), (62, .istore_n 1, 1), (63, .aload_n 0, 1), (64, .getfield 197, 3), (67, .aload_n 0, 1), (68, .getfield 190, 3), (71, .if_icmp .ne 11, 3), (74, .aload_n 0, 1), (75, .iconst 0, 1), (76, .putfield 203, 3)] : List (Nat × Jvm.ClassFile.Instr × Nat)), decode cX8_go q.1 = .ok q.2 := chk_ok _ 0 _ rfl (by decide +kernel)
theorem dX8_go_0 : decode cX8_go 0 = .ok (.aload_n 0, 1) := bdX8_go_0 (0, .aload_n 0, 1) (List.mem_of_getElem? (i := 0) rfl)
theorem dX8_go_1 : decode cX8_go 1 = .ok (.getfield 194, 3) := bdX8_go_0 (1, .getfield 194, 3) (List.mem_of_getElem? (i := 1) rfl)
theorem dX8_go_4 : decode cX8_go 4 = .ok (.aload_n 0, 1) := bdX8_go_0 (4, .aload_n 0, 1) (List.mem_of_getElem? (i := 2) rfl)
theorem dX8_go_5 : decode cX8_go 5 = .ok (.getfield 190, 3) := bdX8_go_0 (5, .getfield 190, 3) (List.mem_of_getElem? (i := 3) rfl)
theorem dX8_go_8 : decode cX8_go 8 = .ok (.if_icmp .ge 30, 3) := bdX8_go_0 (8, .if_icmp .ge 30, 3) (List.mem_of_getElem? (i := 4) rfl)
theorem dX8_go_11 : decode cX8_go 11 = .ok (.aload_n 0, 1) := bdX8_go_0 (11, .aload_n 0, 1) (List.mem_of_getElem? (i := 5) rfl)
theorem dX8_go_12 : decode cX8_go 12 = .ok (.getfield 25, 3) := bdX8_go_0 (12, .getfield 25, 3) (List.mem_of_getElem? (i := 6) rfl)
theorem dX8_go_15 : decode cX8_go 15 = .ok (.aload_n 0, 1) := bdX8_go_0 (15, .aload_n 0, 1) (List.mem_of_getElem? (i := 7) rfl)
theorem dX8_go_16 : decode cX8_go 16 = .ok (.getfield 194, 3) := bdX8_go_0 (16, .getfield 194, 3) (List.mem_of_getElem? (i := 8) rfl)
theorem dX8_go_19 : decode cX8_go 19 = .ok (.iaload, 1) := bdX8_go_0 (19, .iaload, 1) (List.mem_of_getElem? (i := 9) rfl)
theorem dX8_go_20 : decode cX8_go 20 = .ok (.bipush 32, 2) := bdX8_go_0 (20, .bipush 32, 2) (List.mem_of_getElem? (i := 10) rfl)
theorem dX8_go_22 : decode cX8_go 22 = .ok (.if_icmp .ne 16, 3) := bdX8_go_0 (22, .if_icmp .ne 16, 3) (List.mem_of_getElem? (i := 11) rfl)
theorem dX8_go_25 : decode cX8_go 25 = .ok (.aload_n 0, 1) := bdX8_go_0 (25, .aload_n 0, 1) (List.mem_of_getElem? (i := 12) rfl)
theorem dX8_go_26 : decode cX8_go 26 = .ok (.dup, 1) := bdX8_go_0 (26, .dup, 1) (List.mem_of_getElem? (i := 13) rfl)
theorem dX8_go_27 : decode cX8_go 27 = .ok (.getfield 194, 3) := bdX8_go_0 (27, .getfield 194, 3) (List.mem_of_getElem? (i := 14) rfl)
theorem dX8_go_30 : decode cX8_go 30 = .ok (.iconst 1, 1) := bdX8_go_0 (30, .iconst 1, 1) (List.mem_of_getElem? (i := 15) rfl)
theorem dX8_go_31 : decode cX8_go 31 = .ok (.iadd, 1) := bdX8_go_0 (31, .iadd, 1) (List.mem_of_getElem? (i := 16) rfl)
theorem dX8_go_32 : decode cX8_go 32 = .ok (.putfield 194, 3) := bdX8_go_0 (32, .putfield 194, 3) (List.mem_of_getElem? (i := 17) rfl)
theorem dX8_go_35 : decode cX8_go 35 = .ok (.goto (-35), 3) := bdX8_go_0 (35, .goto (-35), 3) (List.mem_of_getElem? (i := 18) rfl)
theorem dX8_go_38 : decode cX8_go 38 = .ok (.aload_n 0, 1) := bdX8_go_0 (38, .aload_n 0, 1) (List.mem_of_getElem? (i := 19) rfl)
theorem dX8_go_39 : decode cX8_go 39 = .ok (.aload_n 0, 1) := bdX8_go_0 (39, .aload_n 0, 1) (List.mem_of_getElem? (i := 20) rfl)
theorem dX8_go_40 : decode cX8_go 40 = .ok (.getfield 194, 3) := bdX8_go_0 (40, .getfield 194, 3) (List.mem_of_getElem? (i := 21) rfl)
theorem dX8_go_43 : decode cX8_go 43 = .ok (.putfield 197, 3) := bdX8_go_0 (43, .putfield 197, 3) (List.mem_of_getElem? (i := 22) rfl)
theorem dX8_go_46 : decode cX8_go 46 = .ok (.aload_n 0, 1) := bdX8_go_0 (46, .aload_n 0, 1) (List.mem_of_getElem? (i := 23) rfl)
theorem dX8_go_47 : decode cX8_go 47 = .ok (.getfield 197, 3) := bdX8_go_0 (47, .getfield 197, 3) (List.mem_of_getElem? (i := 24) rfl)
theorem dX8_go_50 : decode cX8_go 50 = .ok (.aload_n 0, 1) := bdX8_go_0 (50, .aload_n 0, 1) (List.mem_of_getElem? (i := 25) rfl)
theorem dX8_go_51 : decode cX8_go 51 = .ok (.getfield 200, 3) := bdX8_go_0 (51, .getfield 200, 3) (List.mem_of_getElem? (i := 26) rfl)
theorem dX8_go_54 : decode cX8_go 54 = .ok (.if_icmp .ne 7, 3) := bdX8_go_0 (54, .if_icmp .ne 7, 3) (List.mem_of_getElem? (i := 27) rfl)
theorem dX8_go_57 : decode cX8_go 57 = .ok (.iconst 1, 1) := bdX8_go_0 (57, .iconst 1, 1) (List.mem_of_getElem? (i := 28) rfl)
theorem dX8_go_58 : decode cX8_go 58 = .ok (.goto 4, 3) := bdX8_go_0 (58, .goto 4, 3) (List.mem_of_getElem? (i := 29) rfl)
theorem dX8_go_61 : decode cX8_go 61 = .ok (.iconst 0, 1) := bdX8_go_0 (61, .iconst 0, 1) (List.mem_of_getElem? (i := 30) rfl)
theorem dX8_go_62 : decode cX8_go 62 = .ok (.istore_n 1, 1) := bdX8_go_0 (62, .istore_n 1, 1) (List.mem_of_getElem? (i := 31) rfl)
theorem dX8_go_63 : decode cX8_go 63 = .ok (.aload_n 0, 1) := bdX8_go_0 (63, .aload_n 0, 1) (List.mem_of_getElem? (i := 32) rfl)
theorem dX8_go_64 : decode cX8_go 64 = .ok (.getfield 197, 3) := bdX8_go_0 (64, .getfield 197, 3) (List.mem_of_getElem? (i := 33) rfl)
theorem dX8_go_67 : decode cX8_go 67 = .ok (.aload_n 0, 1) := bdX8_go_0 (67, .aload_n 0, 1) (List.mem_of_getElem? (i := 34) rfl)
theorem dX8_go_68 : decode cX8_go 68 = .ok (.getfield 190, 3) := bdX8_go_0 (68, .getfield 190, 3) (List.mem_of_getElem? (i := 35) rfl)
theorem dX8_go_71 : decode cX8_go 71 = .ok (.if_icmp .ne 11, 3) := bdX8_go_0 (71, .if_icmp .ne 11, 3) (List.mem_of_getElem? (i := 36) rfl)
theorem dX8_go_74 : decode cX8_go 74 = .ok (.aload_n 0, 1) := bdX8_go_0 (74, .aload_n 0, 1) (List.mem_of_getElem? (i := 37) rfl)
theorem dX8_go_75 : decode cX8_go 75 = .ok (.iconst 0, 1) := bdX8_go_0 (75, .iconst 0, 1) (List.mem_of_getElem? (i := 38) rfl)
theorem dX8_go_76 : decode cX8_go 76 = .ok (.putfield 203, 3) := bdX8_go_0 (76, .putfield 203, 3) (List.mem_of_getElem? (i := 39) rfl)
theorem bdX8_go_79 : ∀ q ∈ ([(79, .goto 224, 3), (82, .aload_n 0, 1), (83, .aload_n 0, 1), (84, .getfield 197, 3), (87, .invokevirtual 206, 3), (90, .ifCond .eq 64, 3), (93, .aload_n 0, 1), (94, .aload_n 0, 1), (95, .getfield 194, 3), (98, .invokevirtual 206, 3), (101, .ifCond .eq 16, 3), (104, .aload_n 0, 1), (105, .dup, 1), (106, .getfield 194, 3), (109, .iconst 1, 1), (110, .iadd, 1), (111, .putfield 194, 3), (114, .goto (-21), 3), (117, .aload_n 0, 1), (118, .iload_n 1, 1), (119, .ifCond .eq 7, 3), (122, .iconst 4, 1), (123, .goto 4, 3), (126, .iconst 1, 1), (127, .putfield 203, 3), (130, .aload_n 0, 1), (131, .aload_n 0, 1), (132, .getfield 25, 3), (135, .aload_n 0, 1), (136, .getfield 197, 3), (139, .iaload, 1), (140, .putfield 209, 3), (143, .aload_n 0, 1), (144, .aload_n 0, 1), (145, .getfield 194, 3), (148, .putfield 200, 3), (151, .goto 152, 3), (154, .aload_n 0, 1), (155, .aload_n 0, 1), (156, .getfield 197, 3)] : List (Nat × Jvm.ClassFile.Instr × Nat)), decode cX8_go q.1 = .ok q.2 := chk_ok _ 79 _ rfl (by decide +kernel)
theorem dX8_go_79 : decode cX8_go 79 = .ok (.goto 224, 3) := bdX8_go_79 (79, .goto 224, 3) (List.mem_of_getElem? (i := 0) rfl)
theorem dX8_go_82 : decode cX8_go 82 = .ok (.aload_n 0, 1) := bdX8_go_79 (82, .aload_n 0, 1) (List.mem_of_getElem? (i := 1) rfl)
theorem dX8_go_83 : decode cX8_go 83 = .ok (.aload_n 0, 1) := bdX8_go_79 (83, .aload_n 0, 1) (List.mem_of_getElem? (i := 2) rfl)
theorem dX8_go_84 : decode cX8_go 84 = .ok (.getfield 197, 3) := bdX8_go_79 (84, .getfield 197, 3) (List.mem_of_getElem? (i := 3) rfl)
theorem dX8_go_87 : decode cX8_go 87 = .ok (.invokevirtual 206, 3) := bdX8_go_79 (87, .invokevirtual 206, 3) (List.mem_of_getElem? (i := 4) rfl)
theorem dX8_go_90 : decode cX8_go 90 = .ok (.ifCond .eq 64, 3) := bdX8_go_79 (90, .ifCond .eq 64, 3) (List.mem_of_getElem? (i := 5) rfl)
theorem dX8_go_93 : decode cX8_go 93 = .ok (.aload_n 0, 1) := bdX8_go_79 (93, .aload_n 0, 1) (List.mem_of_getElem? (i := 6) rfl)
theorem dX8_go_94 : decode cX8_go 94 = .ok (.aload_n 0, 1) := bdX8_go_79 (94, .aload_n 0, 1) (List.mem_of_getElem? (i := 7) rfl)
theorem dX8_go_95 : decode cX8_go 95 = .ok (.getfield 194, 3) := bdX8_go_79 (95, .getfield 194, 3) (List.mem_of_getElem? (i := 8) rfl)
theorem dX8_go_98 : decode cX8_go 98 = .ok (.invokevirtual 206, 3) := bdX8_go_79 (98, .invokevirtual 206, 3) (List.mem_of_getElem? (i := 9) rfl)
theorem dX8_go_101 : decode cX8_go 101 = .ok (.ifCond .eq 16, 3) := bdX8_go_79 (101, .ifCond .eq 16, 3) (List.mem_of_getElem? (i := 10) rfl)
theorem dX8_go_104 : decode cX8_go 104 = .ok (.aload_n 0, 1) := bdX8_go_79 (104, .aload_n 0, 1) (List.mem_of_getElem? (i := 11) rfl)
theorem dX8_go_105 : decode cX8_go 105 = .ok (.dup, 1) := bdX8_go_79 (105, .dup, 1) (List.mem_of_getElem? (i := 12) rfl)
theorem dX8_go_106 : decode cX8_go 106 = .ok (.getfield 194, 3) := bdX8_go_79 (106, .getfield 194, 3) (List.mem_of_getElem? (i := 13) rfl)
theorem dX8_go_109 : decode cX8_go 109 = .ok (.iconst 1, 1) := bdX8_go_79 (109, .iconst 1, 1) (List.mem_of_getElem? (i := 14) rfl)
theorem dX8_go_110 : decode cX8_go 110 = .ok (.iadd, 1) := bdX8_go_79 (110, .iadd, 1) (List.mem_of_getElem? (i := 15) rfl)
theorem dX8_go_111 : decode cX8_go 111 = .ok (.putfield 194, 3) := bdX8_go_79 (111, .putfield 194, 3) (List.mem_of_getElem? (i := 16) rfl)
theorem dX8_go_114 : decode cX8_go 114 = .ok (.goto (-21), 3) := bdX8_go_79 (114, .goto (-21), 3) (List.mem_of_getElem? (i := 17) rfl)
theorem dX8_go_117 : decode cX8_go 117 = .ok (.aload_n 0, 1) := bdX8_go_79 (117, .aload_n 0, 1) (List.mem_of_getElem? (i := 18) rfl)
theorem dX8_go_118 : decode cX8_go 118 = .ok (.iload_n 1, 1) := bdX8_go_79 (118, .iload_n 1, 1) (List.mem_of_getElem? (i := 19) rfl)
theorem dX8_go_119 : decode cX8_go 119 = .ok (.ifCond .eq 7, 3) := bdX8_go_79 (119, .ifCond .eq 7, 3) (List.mem_of_getElem? (i := 20) rfl)
theorem dX8_go_122 : decode cX8_go 122 = .ok (.iconst 4, 1) := bdX8_go_79 (122, .iconst 4, 1) (List.mem_of_getElem? (i := 21) rfl)
theorem dX8_go_123 : decode cX8_go 123 = .ok (.goto 4, 3) := bdX8_go_79 (123, .goto 4, 3) (List.mem_of_getElem? (i := 22) rfl)
theorem dX8_go_126 : decode cX8_go 126 = .ok (.iconst 1, 1) := bdX8_go_79 (126, .iconst 1, 1) (List.mem_of_getElem? (i := 23) rfl)
theorem dX8_go_127 : decode cX8_go 127 = .ok (.putfield 203, 3) := bdX8_go_79 (127, .putfield 203, 3) (List.mem_of_getElem? (i := 24) rfl)
theorem dX8_go_130 : decode cX8_go 130 = .ok (.aload_n 0, 1) := bdX8_go_79 (130, .aload_n 0, 1) (List.mem_of_getElem? (i := 25) rfl)
theorem dX8_go_131 : decode cX8_go 131 = .ok (.aload_n 0, 1) := bdX8_go_79 (131, .aload_n 0, 1) (List.mem_of_getElem? (i := 26) rfl)
theorem dX8_go_132 : decode cX8_go 132 = .ok (.getfield 25, 3) := bdX8_go_79 (132, .getfield 25, 3) (List.mem_of_getElem? (i := 27) rfl)
theorem dX8_go_135 : decode cX8_go 135 = .ok (.aload_n 0, 1) := bdX8_go_79 (135, .aload_n 0, 1) (List.mem_of_getElem? (i := 28) rfl)
theorem dX8_go_136 : decode cX8_go 136 = .ok (.getfield 197, 3) := bdX8_go_79 (136, .getfield 197, 3) (List.mem_of_getElem? (i := 29) rfl)
theorem dX8_go_139 : decode cX8_go 139 = .ok (.iaload, 1) := bdX8_go_79 (139, .iaload, 1) (List.mem_of_getElem? (i := 30) rfl)
theorem dX8_go_140 : decode cX8_go 140 = .ok (.putfield 209, 3) := bdX8_go_79 (140, .putfield 209, 3) (List.mem_of_getElem? (i := 31) rfl)
theorem dX8_go_143 : decode cX8_go 143 = .ok (.aload_n 0, 1) := bdX8_go_79 (143, .aload_n 0, 1) (List.mem_of_getElem? (i := 32) rfl)
theorem dX8_go_144 : decode cX8_go 144 = .ok (.aload_n 0, 1) := bdX8_go_79 (144, .aload_n 0, 1) (List.mem_of_getElem? (i := 33) rfl)
theorem dX8_go_145 : decode cX8_go 145 = .ok (.getfield 194, 3) := bdX8_go_79 (145, .getfield 194, 3) (List.mem_of_getElem? (i := 34) rfl)
theorem dX8_go_148 : decode cX8_go 148 = .ok (.putfield 200, 3) := bdX8_go_79 (148, .putfield 200, 3) (List.mem_of_getElem? (i := 35) rfl)
theorem dX8_go_151 : decode cX8_go 151 = .ok (.goto 152, 3) := bdX8_go_79 (151, .goto 152, 3) (List.mem_of_getElem? (i := 36) rfl)
theorem dX8_go_154 : decode cX8_go 154 = .ok (.aload_n 0, 1) := bdX8_go_79 (154, .aload_n 0, 1) (List.mem_of_getElem? (i := 37) rfl)
theorem dX8_go_155 : decode cX8_go 155 = .ok (.aload_n 0, 1) := bdX8_go_79 (155, .aload_n 0, 1) (List.mem_of_getElem? (i := 38) rfl)
theorem dX8_go_156 : decode cX8_go 156 = .ok (.getfield 197, 3) := bdX8_go_79 (156, .getfield 197, 3) (List.mem_of_getElem? (i := 39) rfl)
theorem bdX8_go_159 : ∀ q ∈ ([(159, .invokevirtual 212, 3), (162, .ifCond .eq 113, 3), (165, .aload_n 0, 1), (166, .iconst 0, 1), (167, .putfield 209, 3), (170, .aload_n 0, 1), (171, .aload_n 0, 1), (172, .getfield 194, 3), (175, .invokevirtual 212, 3), (178, .ifCond .eq 60, 3), (181, .aload_n 0, 1), (182, .aload_n 0, 1), (183, .getfield 194, 3), (186, .aload_n 0, 1), (187, .getfield 197, 3), (190, .isub, 1), (191, .iconst 4, 1), (192, .if_icmp .ge 26, 3), (195, .bipush 10, 2), (197, .aload_n 0, 1), (198, .getfield 209, 3), (201, .imul, 1), (202, .aload_n 0, 1), (203, .getfield 25, 3), (206, .aload_n 0, 1), (207, .getfield 194, 3), (210, .iaload, 1), (211, .iadd, 1), (212, .bipush 48, 2), (214, .isub, 1), (215, .goto 7, 3), (218, .aload_n 0, 1), (219, .getfield 209, 3), (222, .putfield 209, 3), (225, .aload_n 0, 1), (226, .dup, 1), (227, .getfield 194, 3), (230, .iconst 1, 1), (231, .iadd, 1), (232, .putfield 194, 3)] : List (Nat × Jvm.ClassFile.Instr × Nat)), decode cX8_go q.1 = .ok q.2 := chk_ok _ 159 _ rfl (by decide +kernel)
theorem dX8_go_159 : decode cX8_go 159 = .ok (.invokevirtual 212, 3) := bdX8_go_159 (159, .invokevirtual 212, 3) (List.mem_of_getElem? (i := 0) rfl)
theorem dX8_go_162 : decode cX8_go 162 = .ok (.ifCond .eq 113, 3) := bdX8_go_159 (162, .ifCond .eq 113, 3) (List.mem_of_getElem? (i := 1) rfl)
theorem dX8_go_165 : decode cX8_go 165 = .ok (.aload_n 0, 1) := bdX8_go_159 (165, .aload_n 0, 1) (List.mem_of_getElem? (i := 2) rfl)
theorem dX8_go_166 : decode cX8_go 166 = .ok (.iconst 0, 1) := bdX8_go_159 (166, .iconst 0, 1) (List.mem_of_getElem? (i := 3) rfl)
theorem dX8_go_167 : decode cX8_go 167 = .ok (.putfield 209, 3) := bdX8_go_159 (167, .putfield 209, 3) (List.mem_of_getElem? (i := 4) rfl)
theorem dX8_go_170 : decode cX8_go 170 = .ok (.aload_n 0, 1) := bdX8_go_159 (170, .aload_n 0, 1) (List.mem_of_getElem? (i := 5) rfl)
theorem dX8_go_171 : decode cX8_go 171 = .ok (.aload_n 0, 1) := bdX8_go_159 (171, .aload_n 0, 1) (List.mem_of_getElem? (i := 6) rfl)
theorem dX8_go_172 : decode cX8_go 172 = .ok (.getfield 194, 3) := bdX8_go_159 (172, .getfield 194, 3) (List.mem_of_getElem? (i := 7) rfl)
theorem dX8_go_175 : decode cX8_go 175 = .ok (.invokevirtual 212, 3) := bdX8_go_159 (175, .invokevirtual 212, 3) (List.mem_of_getElem? (i := 8) rfl)
theorem dX8_go_178 : decode cX8_go 178 = .ok (.ifCond .eq 60, 3) := bdX8_go_159 (178, .ifCond .eq 60, 3) (List.mem_of_getElem? (i := 9) rfl)
theorem dX8_go_181 : decode cX8_go 181 = .ok (.aload_n 0, 1) := bdX8_go_159 (181, .aload_n 0, 1) (List.mem_of_getElem? (i := 10) rfl)
theorem dX8_go_182 : decode cX8_go 182 = .ok (.aload_n 0, 1) := bdX8_go_159 (182, .aload_n 0, 1) (List.mem_of_getElem? (i := 11) rfl)
theorem dX8_go_183 : decode cX8_go 183 = .ok (.getfield 194, 3) := bdX8_go_159 (183, .getfield 194, 3) (List.mem_of_getElem? (i := 12) rfl)
theorem dX8_go_186 : decode cX8_go 186 = .ok (.aload_n 0, 1) := bdX8_go_159 (186, .aload_n 0, 1) (List.mem_of_getElem? (i := 13) rfl)
theorem dX8_go_187 : decode cX8_go 187 = .ok (.getfield 197, 3) := bdX8_go_159 (187, .getfield 197, 3) (List.mem_of_getElem? (i := 14) rfl)
theorem dX8_go_190 : decode cX8_go 190 = .ok (.isub, 1) := bdX8_go_159 (190, .isub, 1) (List.mem_of_getElem? (i := 15) rfl)
theorem dX8_go_191 : decode cX8_go 191 = .ok (.iconst 4, 1) := bdX8_go_159 (191, .iconst 4, 1) (List.mem_of_getElem? (i := 16) rfl)
theorem dX8_go_192 : decode cX8_go 192 = .ok (.if_icmp .ge 26, 3) := bdX8_go_159 (192, .if_icmp .ge 26, 3) (List.mem_of_getElem? (i := 17) rfl)
theorem dX8_go_195 : decode cX8_go 195 = .ok (.bipush 10, 2) := bdX8_go_159 (195, .bipush 10, 2) (List.mem_of_getElem? (i := 18) rfl)
theorem dX8_go_197 : decode cX8_go 197 = .ok (.aload_n 0, 1) := bdX8_go_159 (197, .aload_n 0, 1) (List.mem_of_getElem? (i := 19) rfl)
theorem dX8_go_198 : decode cX8_go 198 = .ok (.getfield 209, 3) := bdX8_go_159 (198, .getfield 209, 3) (List.mem_of_getElem? (i := 20) rfl)
theorem dX8_go_201 : decode cX8_go 201 = .ok (.imul, 1) := bdX8_go_159 (201, .imul, 1) (List.mem_of_getElem? (i := 21) rfl)
theorem dX8_go_202 : decode cX8_go 202 = .ok (.aload_n 0, 1) := bdX8_go_159 (202, .aload_n 0, 1) (List.mem_of_getElem? (i := 22) rfl)
theorem dX8_go_203 : decode cX8_go 203 = .ok (.getfield 25, 3) := bdX8_go_159 (203, .getfield 25, 3) (List.mem_of_getElem? (i := 23) rfl)
theorem dX8_go_206 : decode cX8_go 206 = .ok (.aload_n 0, 1) := bdX8_go_159 (206, .aload_n 0, 1) (List.mem_of_getElem? (i := 24) rfl)
theorem dX8_go_207 : decode cX8_go 207 = .ok (.getfield 194, 3) := bdX8_go_159 (207, .getfield 194, 3) (List.mem_of_getElem? (i := 25) rfl)
theorem dX8_go_210 : decode cX8_go 210 = .ok (.iaload, 1) := bdX8_go_159 (210, .iaload, 1) (List.mem_of_getElem? (i := 26) rfl)
theorem dX8_go_211 : decode cX8_go 211 = .ok (.iadd, 1) := bdX8_go_159 (211, .iadd, 1) (List.mem_of_getElem? (i := 27) rfl)
theorem dX8_go_212 : decode cX8_go 212 = .ok (.bipush 48, 2) := bdX8_go_159 (212, .bipush 48, 2) (List.mem_of_getElem? (i := 28) rfl)
theorem dX8_go_214 : decode cX8_go 214 = .ok (.isub, 1) := bdX8_go_159 (214, .isub, 1) (List.mem_of_getElem? (i := 29) rfl)
theorem dX8_go_215 : decode cX8_go 215 = .ok (.goto 7, 3) := bdX8_go_159 (215, .goto 7, 3) (List.mem_of_getElem? (i := 30) rfl)
theorem dX8_go_218 : decode cX8_go 218 = .ok (.aload_n 0, 1) := bdX8_go_159 (218, .aload_n 0, 1) (List.mem_of_getElem? (i := 31) rfl)
theorem dX8_go_219 : decode cX8_go 219 = .ok (.getfield 209, 3) := bdX8_go_159 (219, .getfield 209, 3) (List.mem_of_getElem? (i := 32) rfl)
theorem dX8_go_222 : decode cX8_go 222 = .ok (.putfield 209, 3) := bdX8_go_159 (222, .putfield 209, 3) (List.mem_of_getElem? (i := 33) rfl)
theorem dX8_go_225 : decode cX8_go 225 = .ok (.aload_n 0, 1) := bdX8_go_159 (225, .aload_n 0, 1) (List.mem_of_getElem? (i := 34) rfl)
theorem dX8_go_226 : decode cX8_go 226 = .ok (.dup, 1) := bdX8_go_159 (226, .dup, 1) (List.mem_of_getElem? (i := 35) rfl)
theorem dX8_go_227 : decode cX8_go 227 = .ok (.getfield 194, 3) := bdX8_go_159 (227, .getfield 194, 3) (List.mem_of_getElem? (i := 36) rfl)
theorem dX8_go_230 : decode cX8_go 230 = .ok (.iconst 1, 1) := bdX8_go_159 (230, .iconst 1, 1) (List.mem_of_getElem? (i := 37) rfl)
theorem dX8_go_231 : decode cX8_go 231 = .ok (.iadd, 1) := bdX8_go_159 (231, .iadd, 1) (List.mem_of_getElem? (i := 38) rfl)
theorem dX8_go_232 : decode cX8_go 232 = .ok (.putfield 194, 3) := bdX8_go_159 (232, .putfield 194, 3) (List.mem_of_getElem? (i := 39) rfl)
theorem bdX8_go_235 : ∀ q ∈ ([(235, .goto (-65), 3), (238, .aload_n 0, 1), (239, .iload_n 1, 1), (240, .ifCond .ne 16, 3), (243, .aload_n 0, 1), (244, .getfield 194, 3), (247, .aload_n 0, 1), (248, .getfield 197, 3), (251, .isub, 1), (252, .iconst 4, 1), (253, .if_icmp .le 7, 3), (256, .iconst 4, 1), (257, .goto 4, 3), (260, .iconst 2, 1), (261, .putfield 203, 3), (264, .aload_n 0, 1), (265, .aload_n 0, 1), (266, .getfield 194, 3), (269, .putfield 200, 3), (272, .goto 31, 3), (275, .aload_n 0, 1), (276, .iconst 3, 1), (277, .putfield 203, 3), (280, .aload_n 0, 1), (281, .aload_n 0, 1), (282, .getfield 25, 3), (285, .aload_n 0, 1), (286, .getfield 197, 3), (289, .iaload, 1), (290, .putfield 209, 3), (293, .aload_n 0, 1), (294, .dup, 1), (295, .getfield 194, 3), (298, .iconst 1, 1), (299, .iadd, 1), (300, .putfield 194, 3), (303, .return_, 1)] : List (Nat × Jvm.ClassFile.Instr × Nat)), decode cX8_go q.1 = .ok q.2 := chk_ok _ 235 _ rfl (by decide +kernel)
theorem dX8_go_235 : decode cX8_go 235 = .ok (.goto (-65), 3) := bdX8_go_235 (235, .goto (-65), 3) (List.mem_of_getElem? (i := 0) rfl)
theorem dX8_go_238 : decode cX8_go 238 = .ok (.aload_n 0, 1) := bdX8_go_235 (238, .aload_n 0, 1) (List.mem_of_getElem? (i := 1) rfl)
theorem dX8_go_239 : decode cX8_go 239 = .ok (.iload_n 1, 1) := bdX8_go_235 (239, .iload_n 1, 1) (List.mem_of_getElem? (i := 2) rfl)
theorem dX8_go_240 : decode cX8_go 240 = .ok (.ifCond .ne 16, 3) := bdX8_go_235 (240, .ifCond .ne 16, 3) (List.mem_of_getElem? (i := 3) rfl)
theorem dX8_go_243 : decode cX8_go 243 = .ok (.aload_n 0, 1) := bdX8_go_235 (243, .aload_n 0, 1) (List.mem_of_getElem? (i := 4) rfl)
theorem dX8_go_244 : decode cX8_go 244 = .ok (.getfield 194, 3) := bdX8_go_235 (244, .getfield 194, 3) (List.mem_of_getElem? (i := 5) rfl)
theorem dX8_go_247 : decode cX8_go 247 = .ok (.aload_n 0, 1) := bdX8_go_235 (247, .aload_n 0, 1) (List.mem_of_getElem? (i := 6) rfl)
theorem dX8_go_248 : decode cX8_go 248 = .ok (.getfield 197, 3) := bdX8_go_235 (248, .getfield 197, 3) (List.mem_of_getElem? (i := 7) rfl)
theorem dX8_go_251 : decode cX8_go 251 = .ok (.isub, 1) := bdX8_go_235 (251, .isub, 1) (List.mem_of_getElem? (i := 8) rfl)
theorem dX8_go_252 : decode cX8_go 252 = .ok (.iconst 4, 1) := bdX8_go_235 (252, .iconst 4, 1) (List.mem_of_getElem? (i := 9) rfl)
theorem dX8_go_253 : decode cX8_go 253 = .ok (.if_icmp .le 7, 3) := bdX8_go_235 (253, .if_icmp .le 7, 3) (List.mem_of_getElem? (i := 10) rfl)
theorem dX8_go_256 : decode cX8_go 256 = .ok (.iconst 4, 1) := bdX8_go_235 (256, .iconst 4, 1) (List.mem_of_getElem? (i := 11) rfl)
theorem dX8_go_257 : decode cX8_go 257 = .ok (.goto 4, 3) := bdX8_go_235 (257, .goto 4, 3) (List.mem_of_getElem? (i := 12) rfl)
theorem dX8_go_260 : decode cX8_go 260 = .ok (.iconst 2, 1) := bdX8_go_235 (260, .iconst 2, 1) (List.mem_of_getElem? (i := 13) rfl)
theorem dX8_go_261 : decode cX8_go 261 = .ok (.putfield 203, 3) := bdX8_go_235 (261, .putfield 203, 3) (List.mem_of_getElem? (i := 14) rfl)
theorem dX8_go_264 : decode cX8_go 264 = .ok (.aload_n 0, 1) := bdX8_go_235 (264, .aload_n 0, 1) (List.mem_of_getElem? (i := 15) rfl)
theorem dX8_go_265 : decode cX8_go 265 = .ok (.aload_n 0, 1) := bdX8_go_235 (265, .aload_n 0, 1) (List.mem_of_getElem? (i := 16) rfl)
theorem dX8_go_266 : decode cX8_go 266 = .ok (.getfield 194, 3) := bdX8_go_235 (266, .getfield 194, 3) (List.mem_of_getElem? (i := 17) rfl)
theorem dX8_go_269 : decode cX8_go 269 = .ok (.putfield 200, 3) := bdX8_go_235 (269, .putfield 200, 3) (List.mem_of_getElem? (i := 18) rfl)
theorem dX8_go_272 : decode cX8_go 272 = .ok (.goto 31, 3) := bdX8_go_235 (272, .goto 31, 3) (List.mem_of_getElem? (i := 19) rfl)
theorem dX8_go_275 : decode cX8_go 275 = .ok (.aload_n 0, 1) := bdX8_go_235 (275, .aload_n 0, 1) (List.mem_of_getElem? (i := 20) rfl)
theorem dX8_go_276 : decode cX8_go 276 = .ok (.iconst 3, 1) := bdX8_go_235 (276, .iconst 3, 1) (List.mem_of_getElem? (i := 21) rfl)
theorem dX8_go_277 : decode cX8_go 277 = .ok (.putfield 203, 3) := bdX8_go_235 (277, .putfield 203, 3) (List.mem_of_getElem? (i := 22) rfl)
theorem dX8_go_280 : decode cX8_go 280 = .ok (.aload_n 0, 1) := bdX8_go_235 (280, .aload_n 0, 1) (List.mem_of_getElem? (i := 23) rfl)
theorem dX8_go_281 : decode cX8_go 281 = .ok (.aload_n 0, 1) := bdX8_go_235 (281, .aload_n 0, 1) (List.mem_of_getElem? (i := 24) rfl)
theorem dX8_go_282 : decode cX8_go 282 = .ok (.getfield 25, 3) := bdX8_go_235 (282, .getfield 25, 3) (List.mem_of_getElem? (i := 25) rfl)
theorem dX8_go_285 : decode cX8_go 285 = .ok (.aload_n 0, 1) := bdX8_go_235 (285, .aload_n 0, 1) (List.mem_of_getElem? (i := 26) rfl)
theorem dX8_go_286 : decode cX8_go 286 = .ok (.getfield 197, 3) := bdX8_go_235 (286, .getfield 197, 3) (List.mem_of_getElem? (i := 27) rfl)
theorem dX8_go_289 : decode cX8_go 289 = .ok (.iaload, 1) := bdX8_go_235 (289, .iaload, 1) (List.mem_of_getElem? (i := 28) rfl)
theorem dX8_go_290 : decode cX8_go 290 = .ok (.putfield 209, 3) := bdX8_go_235 (290, .putfield 209, 3) (List.mem_of_getElem? (i := 29) rfl)
theorem dX8_go_293 : decode cX8_go 293 = .ok (.aload_n 0, 1) := bdX8_go_235 (293, .aload_n 0, 1) (List.mem_of_getElem? (i := 30) rfl)
theorem dX8_go_294 : decode cX8_go 294 = .ok (.dup, 1) := bdX8_go_235 (294, .dup, 1) (List.mem_of_getElem? (i := 31) rfl)
theorem dX8_go_295 : decode cX8_go 295 = .ok (.getfield 194, 3) := bdX8_go_235 (295, .getfield 194, 3) (List.mem_of_getElem? (i := 32) rfl)
theorem dX8_go_298 : decode cX8_go 298 = .ok (.iconst 1, 1) := bdX8_go_235 (298, .iconst 1, 1) (List.mem_of_getElem? (i := 33) rfl)
theorem dX8_go_299 : decode cX8_go 299 = .ok (.iadd, 1) := bdX8_go_235 (299, .iadd, 1) (List.mem_of_getElem? (i := 34) rfl)
theorem dX8_go_300 : decode cX8_go 300 = .ok (.putfield 194, 3) := bdX8_go_235 (300, .putfield 194, 3) (List.mem_of_getElem? (i := 35) rfl)
theorem dX8_go_303 : decode cX8_go 303 = .ok (.return_, 1) := bdX8_go_235 (303, .return_, 1) (List.mem_of_getElem? (i := 36) rfl)
theorem fX8_203 : fldOK RX8 203 8 10 .int false := ⟨_, _, _, tyX8, ⟨rfl, iX8, by decide, rfl, by decide⟩, tw_947, ⟨tyX8_ok, nmX8⟩, by decide +kernel, rfl, rfl⟩
theorem fX8_194 : fldOK RX8 194 8 8 .int false := ⟨_, _, _, tyX8, ⟨rfl, iX8, by decide, rfl, by decide⟩, tw_945, ⟨tyX8_ok, nmX8⟩, by decide +kernel, rfl, rfl⟩
theorem fX8_200 : fldOK RX8 200 8 12 .int false := ⟨_, _, _, tyX8, ⟨rfl, iX8, by decide, rfl, by decide⟩, tw_949, ⟨tyX8_ok, nmX8⟩, by decide +kernel, rfl, rfl⟩
theorem fX8_209 : fldOK RX8 209 8 11 .int false := ⟨_, _, _, tyX8, ⟨rfl, iX8, by decide, rfl, by decide⟩, tw_948, ⟨tyX8_ok, nmX8⟩, by decide +kernel, rfl, rfl⟩
theorem kX8_212 : mthV RX8 212 8 yX8_isFigure prog_10_method_57_code 2 (Option.some Jvm.ClassFile.FieldType.boolean) 1 := ⟨⟨⟨tw_1281, tw_67, tw_1284⟩, rfl, by decide +kernel⟩, tw_1283, tw_50, rfl⟩
theorem fX8_197 : fldOK RX8 197 8 9 .int false := ⟨_, _, _, tyX8, ⟨rfl, iX8, by decide, rfl, by decide⟩, tw_946, ⟨tyX8_ok, nmX8⟩, by decide +kernel, rfl, rfl⟩
theorem kX8_206 : mthV RX8 206 8 yX8_isLetter prog_10_method_56_code 2 (Option.some Jvm.ClassFile.FieldType.boolean) 1 := ⟨⟨⟨tw_1277, tw_67, tw_1280⟩, rfl, by decide +kernel⟩, tw_1279, tw_49, rfl⟩
def BX8_go_261 (ln : Nat → Nat) (post : HC → Prop) (S : HC) (x0 : Nat) (t0 : Nat) (t1 : Int32) : Prop := lt_ (sI S t0 10 t1) fun S => lt_ (hI S x0 8) fun z1 => lt_ (sI S x0 12 z1) fun S => post S
def BX8_go_256 (ln : Nat → Nat) (post : HC → Prop) (S : HC) (x0 : Nat) (t0 : Nat) : Prop := BX8_go_261 ln post S x0 t0 (4 : Int32)
def BX8_go_222 (ln : Nat → Nat) (post : HC → Prop) (K170 : HC → Nat → Int32 → Prop) (S : HC) (x0 : Nat) (x1 : Int32) (t0 : Nat) (t1 : Int32) : Prop := lt_ (sI S t0 11 t1) fun S => lt_ (hI S x0 8) fun z2 => lt_ (z2 + (1 : Int32)) fun z3 => lt_ (sI S x0 8 z3) fun S => K170 S x0 x1
def LX8_go_170 (ln : Nat → Nat) (post : HC → Prop) : Nat → HC → Nat → Int32 → Prop
  | 0 => fun _ _ _ => False
  | n170 + 1 => fun S x0 x1 => lt_ (hI S x0 8) fun z4 => wpX8_isFigure ln S x0 z4 fun z5 S => if z5 = 0 then (if x1 = 0 then (lt_ (hI S x0 8) fun z6 => lt_ (hI S x0 9) fun z7 => lt_ (z6 - z7) fun z8 => if z8 ≤ (4 : Int32) then (BX8_go_261 ln post S x0 x0 (2 : Int32)) else (BX8_go_256 ln post S x0 x0)) else (BX8_go_256 ln post S x0 x0)) else (lt_ (hI S x0 8) fun z9 => lt_ (hI S x0 9) fun z10 => lt_ (z9 - z10) fun z11 => if (4 : Int32) ≤ z11 then (lt_ (hI S x0 11) fun z12 => BX8_go_222 ln post (LX8_go_170 ln post n170) S x0 x1 x0 z12) else (lt_ (hI S x0 11) fun z13 => lt_ ((10 : Int32) * z13) fun z14 => dn_ (hR S x0 6) fun b15 => lt_ (hI S x0 8) fun z16 => al_ (ln b15) z16 (hI S b15) fun z17 => lt_ (z14 + z17) fun z18 => lt_ (z18 - (48 : Int32)) fun z19 => BX8_go_222 ln post (LX8_go_170 ln post n170) S x0 x1 x0 z19))
def BX8_go_127 (ln : Nat → Nat) (post : HC → Prop) (S : HC) (x0 : Nat) (t0 : Nat) (t1 : Int32) : Prop := lt_ (sI S t0 10 t1) fun S => dn_ (hR S x0 6) fun b20 => lt_ (hI S x0 9) fun z21 => al_ (ln b20) z21 (hI S b20) fun z22 => lt_ (sI S x0 11 z22) fun S => lt_ (hI S x0 8) fun z23 => lt_ (sI S x0 12 z23) fun S => post S
def LX8_go_93 (ln : Nat → Nat) (post : HC → Prop) : Nat → HC → Nat → Int32 → Prop
  | 0 => fun _ _ _ => False
  | n93 + 1 => fun S x0 x1 => lt_ (hI S x0 8) fun z24 => wpX8_isLetter ln S x0 z24 fun z25 S => if z25 = 0 then (if x1 = 0 then (BX8_go_127 ln post S x0 x0 (1 : Int32)) else (BX8_go_127 ln post S x0 x0 (4 : Int32))) else (lt_ (hI S x0 8) fun z26 => lt_ (z26 + (1 : Int32)) fun z27 => lt_ (sI S x0 8 z27) fun S => (LX8_go_93 ln post n93) S x0 x1)
def BX8_go_62 (ln : Nat → Nat) (post : HC → Prop) (S : HC) (x0 : Nat) (t0 : Int32) : Prop := lt_ (hI S x0 9) fun z28 => lt_ (hI S x0 7) fun z29 => if z28 = z29 then (lt_ (sI S x0 10 (0 : Int32)) fun S => post S) else (lt_ (hI S x0 9) fun z30 => wpX8_isLetter ln S x0 z30 fun z31 S => if z31 = 0 then (lt_ (hI S x0 9) fun z32 => wpX8_isFigure ln S x0 z32 fun z33 S => if z33 = 0 then (lt_ (sI S x0 10 (3 : Int32)) fun S => dn_ (hR S x0 6) fun b34 => lt_ (hI S x0 9) fun z35 => al_ (ln b34) z35 (hI S b34) fun z36 => lt_ (sI S x0 11 z36) fun S => lt_ (hI S x0 8) fun z37 => lt_ (z37 + (1 : Int32)) fun z38 => lt_ (sI S x0 8 z38) fun S => post S) else (lt_ (sI S x0 11 (0 : Int32)) fun S => ∃ n170, LX8_go_170 ln post n170 S x0 t0)) else (∃ n93, LX8_go_93 ln post n93 S x0 t0))
def BX8_go_38 (ln : Nat → Nat) (post : HC → Prop) (S : HC) (x0 : Nat) : Prop := lt_ (hI S x0 8) fun z39 => lt_ (sI S x0 9 z39) fun S => lt_ (hI S x0 9) fun z40 => lt_ (hI S x0 12) fun z41 => if z40 = z41 then (BX8_go_62 ln post S x0 (1 : Int32)) else (BX8_go_62 ln post S x0 (0 : Int32))
def LX8_go_0 (ln : Nat → Nat) (post : HC → Prop) : Nat → HC → Nat → Prop
  | 0 => fun _ _ => False
  | n0 + 1 => fun S x0 => lt_ (hI S x0 8) fun z42 => lt_ (hI S x0 7) fun z43 => if z43 ≤ z42 then (BX8_go_38 ln post S x0) else (dn_ (hR S x0 6) fun b44 => lt_ (hI S x0 8) fun z45 => al_ (ln b44) z45 (hI S b44) fun z46 => if z46 = (32 : Int32) then (lt_ (hI S x0 8) fun z47 => lt_ (z47 + (1 : Int32)) fun z48 => lt_ (sI S x0 8 z48) fun S => (LX8_go_0 ln post n0) S x0) else (BX8_go_38 ln post S x0))
def wpX8_go (ln : Nat → Nat) (S : HC) (a0 : Nat) (post : HC → Prop) : Prop := lt_ (hI S a0 8) fun z49 => lt_ (hI S a0 7) fun z50 => if z50 ≤ z49 then (BX8_go_38 ln post S a0) else (dn_ (hR S a0 6) fun b51 => lt_ (hI S a0 8) fun z52 => al_ (ln b51) z52 (hI S b51) fun z53 => if z53 = (32 : Int32) then (lt_ (hI S a0 8) fun z54 => lt_ (z54 + (1 : Int32)) fun z55 => lt_ (sI S a0 8 z55) fun S => ∃ n0, LX8_go_0 ln post n0 S a0) else (BX8_go_38 ln post S a0))
abbrev rmX8_go : Room := { frames := 1, cells := 0, slots := 0, locals := 21 }
set_option maxHeartbeats 4000000 in
set_option maxRecDepth 100000 in
theorem ctX8_go {l : Launch} {g : GX} {N : Nat} {ln : Nat → Nat} {S : HC} {a0 : Nat} {post : HC → Prop} (hr_a0 : a0 < N) (hk_a0 : kd a0 = 8) (h : wpX8_go ln S a0 post) : Met l yX8_go (Cond.code yX8_go prog_10_method_58_code 2 (Option.none : Option Jvm.ClassFile.FieldType) :: gtbl) rmX8_go (va_Pc [.ref (gz g + a0)] (AtP g N ln S)) (QV g N ln post) 0 0 (gF g) := by
  refine m_of (by decide) (Nat.le_of_ble_eq_true rfl) ?_
  intro p e s m below meth c ls F hr I hl
  have hl : lv_has ls 2 [(0, .ref (gz g + a0))] := hl
  unfold wpX8_go at h
  have hj_261 : ∀ (S : HC) (H : Heap) (locs : List Loc) (ls : Array Slot) (x0 : Nat) (t0 : Nat) (t1 : Int32), x0 < N → kd x0 = 8 → t0 < N → kd t0 = 8 → BX8_go_261 ln post S x0 t0 t1 → Inv g N ln S s H locs → lv_has ls 2 [(0, .ref (gz g + x0))] → W p l e rmX8_go s m ([.ref (gz g + a0)] : List Value).toArray below meth c H locs 0 0 (MQ below (QV g N ln post) ([.ref (gz g + a0)] : List Value).toArray s 0 0 (gF g)) (F0 m 261 ls [.int t1, .ref (gz g + t0)]) := by
    intro S H locs ls x0 t0 t1 hr_x0 hk_x0 hr_t0 hk_t0 h I hl
    unfold BX8_go_261 at h
    refine r_putI F I hr_t0 hk_t0 fX8_203 rfl (Or.inl rfl) ⟨rfl, rfl⟩ dX8_go_261 h (fun S H locs I h => ?_)
    refine lv_aload_n F.1 F.2.1 dX8_go_264 rfl (lv_at hl 0 rfl) ?_
    refine lv_aload_n F.1 F.2.1 dX8_go_265 rfl (lv_at hl 0 rfl) ?_
    refine r_getI F I hr_x0 hk_x0 fX8_194 rfl dX8_go_266 h (fun z1 h => ?_)
    refine r_putI F I hr_x0 hk_x0 fX8_200 rfl (Or.inl rfl) ⟨rfl, rfl⟩ dX8_go_269 h (fun S H locs I h => ?_)
    refine lv_goto (tgt := 303) F.1 F.2.1 dX8_go_272 (by decide) ?_
    exact r_vreturn F I ⟨hr.1, hr.2.1, trivial⟩ h dX8_go_303
  have hj_256 : ∀ (S : HC) (H : Heap) (locs : List Loc) (ls : Array Slot) (x0 : Nat) (t0 : Nat), x0 < N → kd x0 = 8 → t0 < N → kd t0 = 8 → BX8_go_256 ln post S x0 t0 → Inv g N ln S s H locs → lv_has ls 2 [(0, .ref (gz g + x0))] → W p l e rmX8_go s m ([.ref (gz g + a0)] : List Value).toArray below meth c H locs 0 0 (MQ below (QV g N ln post) ([.ref (gz g + a0)] : List Value).toArray s 0 0 (gF g)) (F0 m 256 ls [.ref (gz g + t0)]) := by
    intro S H locs ls x0 t0 hr_x0 hk_x0 hr_t0 hk_t0 h I hl
    unfold BX8_go_256 at h
    refine lv_iconst (v := 4) F.1 F.2.1 dX8_go_256 (by decide) ?_
    refine lv_goto (tgt := 261) F.1 F.2.1 dX8_go_257 (by decide) ?_
    exact hj_261 S _ _ _ x0 t0 (4 : Int32) hr_x0 hk_x0 hr_t0 hk_t0 h I (lv_sub hl [0] rfl)
  have hl_170 : ∀ n170 : Nat, ∀ (S : HC) (H : Heap) (locs : List Loc) (ls : Array Slot) (x0 : Nat) (x1 : Int32), x0 < N → kd x0 = 8 → LX8_go_170 ln post n170 S x0 x1 → Inv g N ln S s H locs → lv_has ls 2 [(0, .ref (gz g + x0)), (1, .int x1)] → W p l e rmX8_go s m ([.ref (gz g + a0)] : List Value).toArray below meth c H locs 0 0 (MQ below (QV g N ln post) ([.ref (gz g + a0)] : List Value).toArray s 0 0 (gF g)) (F0 m 170 ls []) := by
    intro n170
    induction n170 with
    | zero =>
      intro S H locs ls x0 x1 hr_x0 hk_x0 h I hl
      exact h.elim
    | succ n170 ih =>
      have hk170 := ih
      have hj_222 : ∀ (S : HC) (H : Heap) (locs : List Loc) (ls : Array Slot) (x0 : Nat) (x1 : Int32) (t0 : Nat) (t1 : Int32), x0 < N → kd x0 = 8 → t0 < N → kd t0 = 8 → BX8_go_222 ln post (LX8_go_170 ln post n170) S x0 x1 t0 t1 → Inv g N ln S s H locs → lv_has ls 2 [(0, .ref (gz g + x0)), (1, .int x1)] → W p l e rmX8_go s m ([.ref (gz g + a0)] : List Value).toArray below meth c H locs 0 0 (MQ below (QV g N ln post) ([.ref (gz g + a0)] : List Value).toArray s 0 0 (gF g)) (F0 m 222 ls [.int t1, .ref (gz g + t0)]) := by
        intro S H locs ls x0 x1 t0 t1 hr_x0 hk_x0 hr_t0 hk_t0 h I hl
        unfold BX8_go_222 at h
        refine r_putI F I hr_t0 hk_t0 fX8_209 rfl (Or.inl rfl) ⟨rfl, rfl⟩ dX8_go_222 h (fun S H locs I h => ?_)
        refine lv_aload_n F.1 F.2.1 dX8_go_225 rfl (lv_at hl 0 rfl) ?_
        refine lv_dup F.1 F.2.1 dX8_go_226 rfl ?_
        refine r_getI F I hr_x0 hk_x0 fX8_194 rfl dX8_go_227 h (fun z2 h => ?_)
        refine lv_iconst (v := 1) F.1 F.2.1 dX8_go_230 (by decide) ?_
        refine r_iadd F dX8_go_231 h (fun z3 h => ?_)
        refine r_putI F I hr_x0 hk_x0 fX8_194 rfl (Or.inl rfl) ⟨rfl, rfl⟩ dX8_go_232 h (fun S H locs I h => ?_)
        refine lv_goto (tgt := 170) F.1 F.2.1 dX8_go_235 (by decide) ?_
        exact hk170 S _ _ _ x0 x1 hr_x0 hk_x0 h I (lv_sub hl [0, 1] rfl)
      intro S H locs ls x0 x1 hr_x0 hk_x0 h I hl
      rw [LX8_go_170] at h
      refine lv_aload_n F.1 F.2.1 dX8_go_170 rfl (lv_at hl 0 rfl) ?_
      refine lv_aload_n F.1 F.2.1 dX8_go_171 rfl (lv_at hl 0 rfl) ?_
      refine r_getI F I hr_x0 hk_x0 fX8_194 rfl dX8_go_172 h (fun z4 h => ?_)
      refine g_I I (run_V (As := [.int z4]) (rest := []) F I hr_x0 hk_x0 (by decide) kX8_212 (ctX8_isFigure hr_x0 hk_x0 h) ⟨rfl, rfl⟩ ⟨Nat.le_of_ble_eq_true rfl, Nat.le_of_ble_eq_true rfl⟩ rfl hl.1 rfl (Nat.le_of_ble_eq_true rfl) ⟨Nat.le_of_ble_eq_true rfl, Nat.le_of_ble_eq_true rfl⟩ dX8_go_175) (fun z5 S H locs I h => ?_)
      refine r_if_eq (tgt := 238) F dX8_go_178 (by decide) h (fun h => ?_) (fun h => ?_)
      · refine lv_aload_n F.1 F.2.1 dX8_go_238 rfl (lv_at hl 0 rfl) ?_
        refine lv_iload_n F.1 F.2.1 dX8_go_239 rfl (lv_at hl 1 rfl) ?_
        refine r_if_ne (tgt := 256) F dX8_go_240 (by decide) h (fun h => ?_) (fun h => ?_)
        · exact hj_256 S _ _ _ x0 x0 hr_x0 hk_x0 hr_x0 hk_x0 h I (lv_sub hl [0] rfl)
        · refine lv_aload_n F.1 F.2.1 dX8_go_243 rfl (lv_at hl 0 rfl) ?_
          refine r_getI F I hr_x0 hk_x0 fX8_194 rfl dX8_go_244 h (fun z6 h => ?_)
          refine lv_aload_n F.1 F.2.1 dX8_go_247 rfl (lv_at hl 0 rfl) ?_
          refine r_getI F I hr_x0 hk_x0 fX8_197 rfl dX8_go_248 h (fun z7 h => ?_)
          refine r_isub F dX8_go_251 h (fun z8 h => ?_)
          refine lv_iconst (v := 4) F.1 F.2.1 dX8_go_252 (by decide) ?_
          refine r_icmp_le (tgt := 260) F dX8_go_253 (by decide) h (fun h => ?_) (fun h => ?_)
          · refine lv_iconst (v := 2) F.1 F.2.1 dX8_go_260 (by decide) ?_
            exact hj_261 S _ _ _ x0 x0 (2 : Int32) hr_x0 hk_x0 hr_x0 hk_x0 h I (lv_sub hl [0] rfl)
          · exact hj_256 S _ _ _ x0 x0 hr_x0 hk_x0 hr_x0 hk_x0 h I (lv_sub hl [0] rfl)
      · refine lv_aload_n F.1 F.2.1 dX8_go_181 rfl (lv_at hl 0 rfl) ?_
        refine lv_aload_n F.1 F.2.1 dX8_go_182 rfl (lv_at hl 0 rfl) ?_
        refine r_getI F I hr_x0 hk_x0 fX8_194 rfl dX8_go_183 h (fun z9 h => ?_)
        refine lv_aload_n F.1 F.2.1 dX8_go_186 rfl (lv_at hl 0 rfl) ?_
        refine r_getI F I hr_x0 hk_x0 fX8_197 rfl dX8_go_187 h (fun z10 h => ?_)
        refine r_isub F dX8_go_190 h (fun z11 h => ?_)
        refine lv_iconst (v := 4) F.1 F.2.1 dX8_go_191 (by decide) ?_
        refine r_icmp_ge (tgt := 218) F dX8_go_192 (by decide) h (fun h => ?_) (fun h => ?_)
        · refine lv_aload_n F.1 F.2.1 dX8_go_218 rfl (lv_at hl 0 rfl) ?_
          refine r_getI F I hr_x0 hk_x0 fX8_209 rfl dX8_go_219 h (fun z12 h => ?_)
          exact hj_222 S _ _ _ x0 x1 x0 z12 hr_x0 hk_x0 hr_x0 hk_x0 h I (lv_sub hl [0, 1] rfl)
        · refine lv_bipush (v := 10) F.1 F.2.1 dX8_go_195 (by decide) ?_
          refine lv_aload_n F.1 F.2.1 dX8_go_197 rfl (lv_at hl 0 rfl) ?_
          refine r_getI F I hr_x0 hk_x0 fX8_209 rfl dX8_go_198 h (fun z13 h => ?_)
          refine r_imul F dX8_go_201 h (fun z14 h => ?_)
          refine lv_aload_n F.1 F.2.1 dX8_go_202 rfl (lv_at hl 0 rfl) ?_
          refine r_getN F I hr_x0 hk_x0 fX8_25 (f := 9) rfl (by decide) dX8_go_203 h (fun b15 hr_b15 hk_b15 h => ?_)
          refine lv_aload_n F.1 F.2.1 dX8_go_206 rfl (lv_at hl 0 rfl) ?_
          refine r_getI F I hr_x0 hk_x0 fX8_194 rfl dX8_go_207 h (fun z16 h => ?_)
          refine r_ald F I hr_b15 hk_b15 dX8_go_210 h (fun z17 h => ?_)
          refine r_iadd F dX8_go_211 h (fun z18 h => ?_)
          refine lv_bipush (v := 48) F.1 F.2.1 dX8_go_212 (by decide) ?_
          refine r_isub F dX8_go_214 h (fun z19 h => ?_)
          refine lv_goto (tgt := 222) F.1 F.2.1 dX8_go_215 (by decide) ?_
          exact hj_222 S _ _ _ x0 x1 x0 z19 hr_x0 hk_x0 hr_x0 hk_x0 h I (lv_sub hl [0, 1] rfl)
  have hj_127 : ∀ (S : HC) (H : Heap) (locs : List Loc) (ls : Array Slot) (x0 : Nat) (t0 : Nat) (t1 : Int32), x0 < N → kd x0 = 8 → t0 < N → kd t0 = 8 → BX8_go_127 ln post S x0 t0 t1 → Inv g N ln S s H locs → lv_has ls 2 [(0, .ref (gz g + x0))] → W p l e rmX8_go s m ([.ref (gz g + a0)] : List Value).toArray below meth c H locs 0 0 (MQ below (QV g N ln post) ([.ref (gz g + a0)] : List Value).toArray s 0 0 (gF g)) (F0 m 127 ls [.int t1, .ref (gz g + t0)]) := by
    intro S H locs ls x0 t0 t1 hr_x0 hk_x0 hr_t0 hk_t0 h I hl
    unfold BX8_go_127 at h
    refine r_putI F I hr_t0 hk_t0 fX8_203 rfl (Or.inl rfl) ⟨rfl, rfl⟩ dX8_go_127 h (fun S H locs I h => ?_)
    refine lv_aload_n F.1 F.2.1 dX8_go_130 rfl (lv_at hl 0 rfl) ?_
    refine lv_aload_n F.1 F.2.1 dX8_go_131 rfl (lv_at hl 0 rfl) ?_
    refine r_getN F I hr_x0 hk_x0 fX8_25 (f := 9) rfl (by decide) dX8_go_132 h (fun b20 hr_b20 hk_b20 h => ?_)
    refine lv_aload_n F.1 F.2.1 dX8_go_135 rfl (lv_at hl 0 rfl) ?_
    refine r_getI F I hr_x0 hk_x0 fX8_197 rfl dX8_go_136 h (fun z21 h => ?_)
    refine r_ald F I hr_b20 hk_b20 dX8_go_139 h (fun z22 h => ?_)
    refine r_putI F I hr_x0 hk_x0 fX8_209 rfl (Or.inl rfl) ⟨rfl, rfl⟩ dX8_go_140 h (fun S H locs I h => ?_)
    refine lv_aload_n F.1 F.2.1 dX8_go_143 rfl (lv_at hl 0 rfl) ?_
    refine lv_aload_n F.1 F.2.1 dX8_go_144 rfl (lv_at hl 0 rfl) ?_
    refine r_getI F I hr_x0 hk_x0 fX8_194 rfl dX8_go_145 h (fun z23 h => ?_)
    refine r_putI F I hr_x0 hk_x0 fX8_200 rfl (Or.inl rfl) ⟨rfl, rfl⟩ dX8_go_148 h (fun S H locs I h => ?_)
    refine lv_goto (tgt := 303) F.1 F.2.1 dX8_go_151 (by decide) ?_
    exact r_vreturn F I ⟨hr.1, hr.2.1, trivial⟩ h dX8_go_303
  have hl_93 : ∀ n93 : Nat, ∀ (S : HC) (H : Heap) (locs : List Loc) (ls : Array Slot) (x0 : Nat) (x1 : Int32), x0 < N → kd x0 = 8 → LX8_go_93 ln post n93 S x0 x1 → Inv g N ln S s H locs → lv_has ls 2 [(0, .ref (gz g + x0)), (1, .int x1)] → W p l e rmX8_go s m ([.ref (gz g + a0)] : List Value).toArray below meth c H locs 0 0 (MQ below (QV g N ln post) ([.ref (gz g + a0)] : List Value).toArray s 0 0 (gF g)) (F0 m 93 ls []) := by
    intro n93
    induction n93 with
    | zero =>
      intro S H locs ls x0 x1 hr_x0 hk_x0 h I hl
      exact h.elim
    | succ n93 ih =>
      have hk93 := ih
      intro S H locs ls x0 x1 hr_x0 hk_x0 h I hl
      rw [LX8_go_93] at h
      refine lv_aload_n F.1 F.2.1 dX8_go_93 rfl (lv_at hl 0 rfl) ?_
      refine lv_aload_n F.1 F.2.1 dX8_go_94 rfl (lv_at hl 0 rfl) ?_
      refine r_getI F I hr_x0 hk_x0 fX8_194 rfl dX8_go_95 h (fun z24 h => ?_)
      refine g_I I (run_V (As := [.int z24]) (rest := []) F I hr_x0 hk_x0 (by decide) kX8_206 (ctX8_isLetter hr_x0 hk_x0 h) ⟨rfl, rfl⟩ ⟨Nat.le_of_ble_eq_true rfl, Nat.le_of_ble_eq_true rfl⟩ rfl hl.1 rfl (Nat.le_of_ble_eq_true rfl) ⟨Nat.le_of_ble_eq_true rfl, Nat.le_of_ble_eq_true rfl⟩ dX8_go_98) (fun z25 S H locs I h => ?_)
      refine r_if_eq (tgt := 117) F dX8_go_101 (by decide) h (fun h => ?_) (fun h => ?_)
      · refine lv_aload_n F.1 F.2.1 dX8_go_117 rfl (lv_at hl 0 rfl) ?_
        refine lv_iload_n F.1 F.2.1 dX8_go_118 rfl (lv_at hl 1 rfl) ?_
        refine r_if_eq (tgt := 126) F dX8_go_119 (by decide) h (fun h => ?_) (fun h => ?_)
        · refine lv_iconst (v := 1) F.1 F.2.1 dX8_go_126 (by decide) ?_
          exact hj_127 S _ _ _ x0 x0 (1 : Int32) hr_x0 hk_x0 hr_x0 hk_x0 h I (lv_sub hl [0] rfl)
        · refine lv_iconst (v := 4) F.1 F.2.1 dX8_go_122 (by decide) ?_
          refine lv_goto (tgt := 127) F.1 F.2.1 dX8_go_123 (by decide) ?_
          exact hj_127 S _ _ _ x0 x0 (4 : Int32) hr_x0 hk_x0 hr_x0 hk_x0 h I (lv_sub hl [0] rfl)
      · refine lv_aload_n F.1 F.2.1 dX8_go_104 rfl (lv_at hl 0 rfl) ?_
        refine lv_dup F.1 F.2.1 dX8_go_105 rfl ?_
        refine r_getI F I hr_x0 hk_x0 fX8_194 rfl dX8_go_106 h (fun z26 h => ?_)
        refine lv_iconst (v := 1) F.1 F.2.1 dX8_go_109 (by decide) ?_
        refine r_iadd F dX8_go_110 h (fun z27 h => ?_)
        refine r_putI F I hr_x0 hk_x0 fX8_194 rfl (Or.inl rfl) ⟨rfl, rfl⟩ dX8_go_111 h (fun S H locs I h => ?_)
        refine lv_goto (tgt := 93) F.1 F.2.1 dX8_go_114 (by decide) ?_
        exact hk93 S _ _ _ x0 x1 hr_x0 hk_x0 h I (lv_sub hl [0, 1] rfl)
  have hj_62 : ∀ (S : HC) (H : Heap) (locs : List Loc) (ls : Array Slot) (x0 : Nat) (t0 : Int32), x0 < N → kd x0 = 8 → BX8_go_62 ln post S x0 t0 → Inv g N ln S s H locs → lv_has ls 2 [(0, .ref (gz g + x0))] → W p l e rmX8_go s m ([.ref (gz g + a0)] : List Value).toArray below meth c H locs 0 0 (MQ below (QV g N ln post) ([.ref (gz g + a0)] : List Value).toArray s 0 0 (gF g)) (F0 m 62 ls [.int t0]) := by
    intro S H locs ls x0 t0 hr_x0 hk_x0 h I hl
    unfold BX8_go_62 at h
    refine lv_istore_n (lv' := [(1, .int t0), (0, .ref (gz g + x0))]) F.1 F.2.1 dX8_go_62 rfl hl (by decide) rfl (fun ls hl => ?_)
    refine lv_aload_n F.1 F.2.1 dX8_go_63 rfl (lv_at hl 1 rfl) ?_
    refine r_getI F I hr_x0 hk_x0 fX8_197 rfl dX8_go_64 h (fun z28 h => ?_)
    refine lv_aload_n F.1 F.2.1 dX8_go_67 rfl (lv_at hl 1 rfl) ?_
    refine r_getI F I hr_x0 hk_x0 fX8_190 rfl dX8_go_68 h (fun z29 h => ?_)
    refine r_icmp_ne (tgt := 82) F dX8_go_71 (by decide) h (fun h => ?_) (fun h => ?_)
    · refine lv_aload_n F.1 F.2.1 dX8_go_82 rfl (lv_at hl 1 rfl) ?_
      refine lv_aload_n F.1 F.2.1 dX8_go_83 rfl (lv_at hl 1 rfl) ?_
      refine r_getI F I hr_x0 hk_x0 fX8_197 rfl dX8_go_84 h (fun z30 h => ?_)
      refine g_I I (run_V (As := [.int z30]) (rest := []) F I hr_x0 hk_x0 (by decide) kX8_206 (ctX8_isLetter hr_x0 hk_x0 h) ⟨rfl, rfl⟩ ⟨Nat.le_of_ble_eq_true rfl, Nat.le_of_ble_eq_true rfl⟩ rfl hl.1 rfl (Nat.le_of_ble_eq_true rfl) ⟨Nat.le_of_ble_eq_true rfl, Nat.le_of_ble_eq_true rfl⟩ dX8_go_87) (fun z31 S H locs I h => ?_)
      refine r_if_eq (tgt := 154) F dX8_go_90 (by decide) h (fun h => ?_) (fun h => ?_)
      · refine lv_aload_n F.1 F.2.1 dX8_go_154 rfl (lv_at hl 1 rfl) ?_
        refine lv_aload_n F.1 F.2.1 dX8_go_155 rfl (lv_at hl 1 rfl) ?_
        refine r_getI F I hr_x0 hk_x0 fX8_197 rfl dX8_go_156 h (fun z32 h => ?_)
        refine g_I I (run_V (As := [.int z32]) (rest := []) F I hr_x0 hk_x0 (by decide) kX8_212 (ctX8_isFigure hr_x0 hk_x0 h) ⟨rfl, rfl⟩ ⟨Nat.le_of_ble_eq_true rfl, Nat.le_of_ble_eq_true rfl⟩ rfl hl.1 rfl (Nat.le_of_ble_eq_true rfl) ⟨Nat.le_of_ble_eq_true rfl, Nat.le_of_ble_eq_true rfl⟩ dX8_go_159) (fun z33 S H locs I h => ?_)
        refine r_if_eq (tgt := 275) F dX8_go_162 (by decide) h (fun h => ?_) (fun h => ?_)
        · refine lv_aload_n F.1 F.2.1 dX8_go_275 rfl (lv_at hl 1 rfl) ?_
          refine lv_iconst (v := 3) F.1 F.2.1 dX8_go_276 (by decide) ?_
          refine r_putI F I hr_x0 hk_x0 fX8_203 rfl (Or.inl rfl) ⟨rfl, rfl⟩ dX8_go_277 h (fun S H locs I h => ?_)
          refine lv_aload_n F.1 F.2.1 dX8_go_280 rfl (lv_at hl 1 rfl) ?_
          refine lv_aload_n F.1 F.2.1 dX8_go_281 rfl (lv_at hl 1 rfl) ?_
          refine r_getN F I hr_x0 hk_x0 fX8_25 (f := 9) rfl (by decide) dX8_go_282 h (fun b34 hr_b34 hk_b34 h => ?_)
          refine lv_aload_n F.1 F.2.1 dX8_go_285 rfl (lv_at hl 1 rfl) ?_
          refine r_getI F I hr_x0 hk_x0 fX8_197 rfl dX8_go_286 h (fun z35 h => ?_)
          refine r_ald F I hr_b34 hk_b34 dX8_go_289 h (fun z36 h => ?_)
          refine r_putI F I hr_x0 hk_x0 fX8_209 rfl (Or.inl rfl) ⟨rfl, rfl⟩ dX8_go_290 h (fun S H locs I h => ?_)
          refine lv_aload_n F.1 F.2.1 dX8_go_293 rfl (lv_at hl 1 rfl) ?_
          refine lv_dup F.1 F.2.1 dX8_go_294 rfl ?_
          refine r_getI F I hr_x0 hk_x0 fX8_194 rfl dX8_go_295 h (fun z37 h => ?_)
          refine lv_iconst (v := 1) F.1 F.2.1 dX8_go_298 (by decide) ?_
          refine r_iadd F dX8_go_299 h (fun z38 h => ?_)
          refine r_putI F I hr_x0 hk_x0 fX8_194 rfl (Or.inl rfl) ⟨rfl, rfl⟩ dX8_go_300 h (fun S H locs I h => ?_)
          exact r_vreturn F I ⟨hr.1, hr.2.1, trivial⟩ h dX8_go_303
        · refine lv_aload_n F.1 F.2.1 dX8_go_165 rfl (lv_at hl 1 rfl) ?_
          refine lv_iconst (v := 0) F.1 F.2.1 dX8_go_166 (by decide) ?_
          refine r_putI F I hr_x0 hk_x0 fX8_209 rfl (Or.inl rfl) ⟨rfl, rfl⟩ dX8_go_167 h (fun S H locs I h => ?_)
          obtain ⟨n170, h⟩ := h
          exact hl_170 n170 S _ _ _ x0 t0 hr_x0 hk_x0 h I (lv_sub hl [1, 0] rfl)
      · obtain ⟨n93, h⟩ := h
        exact hl_93 n93 S _ _ _ x0 t0 hr_x0 hk_x0 h I (lv_sub hl [1, 0] rfl)
    · refine lv_aload_n F.1 F.2.1 dX8_go_74 rfl (lv_at hl 1 rfl) ?_
      refine lv_iconst (v := 0) F.1 F.2.1 dX8_go_75 (by decide) ?_
      refine r_putI F I hr_x0 hk_x0 fX8_203 rfl (Or.inl rfl) ⟨rfl, rfl⟩ dX8_go_76 h (fun S H locs I h => ?_)
      refine lv_goto (tgt := 303) F.1 F.2.1 dX8_go_79 (by decide) ?_
      exact r_vreturn F I ⟨hr.1, hr.2.1, trivial⟩ h dX8_go_303
  have hj_38 : ∀ (S : HC) (H : Heap) (locs : List Loc) (ls : Array Slot) (x0 : Nat), x0 < N → kd x0 = 8 → BX8_go_38 ln post S x0 → Inv g N ln S s H locs → lv_has ls 2 [(0, .ref (gz g + x0))] → W p l e rmX8_go s m ([.ref (gz g + a0)] : List Value).toArray below meth c H locs 0 0 (MQ below (QV g N ln post) ([.ref (gz g + a0)] : List Value).toArray s 0 0 (gF g)) (F0 m 38 ls []) := by
    intro S H locs ls x0 hr_x0 hk_x0 h I hl
    unfold BX8_go_38 at h
    refine lv_aload_n F.1 F.2.1 dX8_go_38 rfl (lv_at hl 0 rfl) ?_
    refine lv_aload_n F.1 F.2.1 dX8_go_39 rfl (lv_at hl 0 rfl) ?_
    refine r_getI F I hr_x0 hk_x0 fX8_194 rfl dX8_go_40 h (fun z39 h => ?_)
    refine r_putI F I hr_x0 hk_x0 fX8_197 rfl (Or.inl rfl) ⟨rfl, rfl⟩ dX8_go_43 h (fun S H locs I h => ?_)
    refine lv_aload_n F.1 F.2.1 dX8_go_46 rfl (lv_at hl 0 rfl) ?_
    refine r_getI F I hr_x0 hk_x0 fX8_197 rfl dX8_go_47 h (fun z40 h => ?_)
    refine lv_aload_n F.1 F.2.1 dX8_go_50 rfl (lv_at hl 0 rfl) ?_
    refine r_getI F I hr_x0 hk_x0 fX8_200 rfl dX8_go_51 h (fun z41 h => ?_)
    refine r_icmp_ne (tgt := 61) F dX8_go_54 (by decide) h (fun h => ?_) (fun h => ?_)
    · refine lv_iconst (v := 0) F.1 F.2.1 dX8_go_61 (by decide) ?_
      exact hj_62 S _ _ _ x0 (0 : Int32) hr_x0 hk_x0 h I (lv_sub hl [0] rfl)
    · refine lv_iconst (v := 1) F.1 F.2.1 dX8_go_57 (by decide) ?_
      refine lv_goto (tgt := 62) F.1 F.2.1 dX8_go_58 (by decide) ?_
      exact hj_62 S _ _ _ x0 (1 : Int32) hr_x0 hk_x0 h I (lv_sub hl [0] rfl)
  have hl_0 : ∀ n0 : Nat, ∀ (S : HC) (H : Heap) (locs : List Loc) (ls : Array Slot) (x0 : Nat), x0 < N → kd x0 = 8 → LX8_go_0 ln post n0 S x0 → Inv g N ln S s H locs → lv_has ls 2 [(0, .ref (gz g + x0))] → W p l e rmX8_go s m ([.ref (gz g + a0)] : List Value).toArray below meth c H locs 0 0 (MQ below (QV g N ln post) ([.ref (gz g + a0)] : List Value).toArray s 0 0 (gF g)) (F0 m 0 ls []) := by
    intro n0
    induction n0 with
    | zero =>
      intro S H locs ls x0 hr_x0 hk_x0 h I hl
      exact h.elim
    | succ n0 ih =>
      have hk0 := ih
      intro S H locs ls x0 hr_x0 hk_x0 h I hl
      rw [LX8_go_0] at h
      refine lv_aload_n F.1 F.2.1 dX8_go_0 rfl (lv_at hl 0 rfl) ?_
      refine r_getI F I hr_x0 hk_x0 fX8_194 rfl dX8_go_1 h (fun z42 h => ?_)
      refine lv_aload_n F.1 F.2.1 dX8_go_4 rfl (lv_at hl 0 rfl) ?_
      refine r_getI F I hr_x0 hk_x0 fX8_190 rfl dX8_go_5 h (fun z43 h => ?_)
      refine r_icmp_ge (tgt := 38) F dX8_go_8 (by decide) h (fun h => ?_) (fun h => ?_)
      · exact hj_38 S _ _ _ x0 hr_x0 hk_x0 h I (lv_sub hl [0] rfl)
      · refine lv_aload_n F.1 F.2.1 dX8_go_11 rfl (lv_at hl 0 rfl) ?_
        refine r_getN F I hr_x0 hk_x0 fX8_25 (f := 9) rfl (by decide) dX8_go_12 h (fun b44 hr_b44 hk_b44 h => ?_)
        refine lv_aload_n F.1 F.2.1 dX8_go_15 rfl (lv_at hl 0 rfl) ?_
        refine r_getI F I hr_x0 hk_x0 fX8_194 rfl dX8_go_16 h (fun z45 h => ?_)
        refine r_ald F I hr_b44 hk_b44 dX8_go_19 h (fun z46 h => ?_)
        refine lv_bipush (v := 32) F.1 F.2.1 dX8_go_20 (by decide) ?_
        refine r_icmp_ne (tgt := 38) F dX8_go_22 (by decide) h (fun h => ?_) (fun h => ?_)
        · exact hj_38 S _ _ _ x0 hr_x0 hk_x0 h I (lv_sub hl [0] rfl)
        · refine lv_aload_n F.1 F.2.1 dX8_go_25 rfl (lv_at hl 0 rfl) ?_
          refine lv_dup F.1 F.2.1 dX8_go_26 rfl ?_
          refine r_getI F I hr_x0 hk_x0 fX8_194 rfl dX8_go_27 h (fun z47 h => ?_)
          refine lv_iconst (v := 1) F.1 F.2.1 dX8_go_30 (by decide) ?_
          refine r_iadd F dX8_go_31 h (fun z48 h => ?_)
          refine r_putI F I hr_x0 hk_x0 fX8_194 rfl (Or.inl rfl) ⟨rfl, rfl⟩ dX8_go_32 h (fun S H locs I h => ?_)
          refine lv_goto (tgt := 0) F.1 F.2.1 dX8_go_35 (by decide) ?_
          exact hk0 S _ _ _ x0 hr_x0 hk_x0 h I (lv_sub hl [0] rfl)
  refine lv_aload_n F.1 F.2.1 dX8_go_0 rfl (lv_at hl 0 rfl) ?_
  refine r_getI F I hr_a0 hk_a0 fX8_194 rfl dX8_go_1 h (fun z49 h => ?_)
  refine lv_aload_n F.1 F.2.1 dX8_go_4 rfl (lv_at hl 0 rfl) ?_
  refine r_getI F I hr_a0 hk_a0 fX8_190 rfl dX8_go_5 h (fun z50 h => ?_)
  refine r_icmp_ge (tgt := 38) F dX8_go_8 (by decide) h (fun h => ?_) (fun h => ?_)
  · exact hj_38 S _ _ _ a0 hr_a0 hk_a0 h I (lv_sub hl [0] rfl)
  · refine lv_aload_n F.1 F.2.1 dX8_go_11 rfl (lv_at hl 0 rfl) ?_
    refine r_getN F I hr_a0 hk_a0 fX8_25 (f := 9) rfl (by decide) dX8_go_12 h (fun b51 hr_b51 hk_b51 h => ?_)
    refine lv_aload_n F.1 F.2.1 dX8_go_15 rfl (lv_at hl 0 rfl) ?_
    refine r_getI F I hr_a0 hk_a0 fX8_194 rfl dX8_go_16 h (fun z52 h => ?_)
    refine r_ald F I hr_b51 hk_b51 dX8_go_19 h (fun z53 h => ?_)
    refine lv_bipush (v := 32) F.1 F.2.1 dX8_go_20 (by decide) ?_
    refine r_icmp_ne (tgt := 38) F dX8_go_22 (by decide) h (fun h => ?_) (fun h => ?_)
    · exact hj_38 S _ _ _ a0 hr_a0 hk_a0 h I (lv_sub hl [0] rfl)
    · refine lv_aload_n F.1 F.2.1 dX8_go_25 rfl (lv_at hl 0 rfl) ?_
      refine lv_dup F.1 F.2.1 dX8_go_26 rfl ?_
      refine r_getI F I hr_a0 hk_a0 fX8_194 rfl dX8_go_27 h (fun z54 h => ?_)
      refine lv_iconst (v := 1) F.1 F.2.1 dX8_go_30 (by decide) ?_
      refine r_iadd F dX8_go_31 h (fun z55 h => ?_)
      refine r_putI F I hr_a0 hk_a0 fX8_194 rfl (Or.inl rfl) ⟨rfl, rfl⟩ dX8_go_32 h (fun S H locs I h => ?_)
      refine lv_goto (tgt := 0) F.1 F.2.1 dX8_go_35 (by decide) ?_
      obtain ⟨n0, h⟩ := h
      exact hl_0 n0 S _ _ _ a0 hr_a0 hk_a0 h I (lv_sub hl [0] rfl)
theorem bdX8_takesKey_0 : ∀ q ∈ ([(0, .aload_n 0, 1), (1, .getfield 203, 3), (4, .iconst 1, 1), (5, .if_icmp .eq 5, 3), (8, .iconst 0, 1), (9, .ireturn, 1), (10, .iconst 0, 1), (11, .istore_n 1, 1), (12, .iload_n 1, 1), (13, .iconst 3, 1), (14, .if_icmp .ge 113, 3), (17, .aload_n 0, 1), (18, .getfield 32, 3), (21, .iload_n 1, 1), (22, .iconst 1, 1), (23, .iadd, 1), (24, .iaload, 1), (25, .aload_n 0, 1), (26, .getfield 32, 3), (29, .iload_n 1, 1), (30, .iaload, 1), (31, .isub, 1), (32, .istore_n 2, 1), (33, .iload_n 2, 1), (34, .aload_n 0, 1), (35, .getfield 194, 3), (38, .aload_n 0, 1), (39, .getfield 197, 3), (42, .isub, 1), (43, .if_icmp .ne 7, 3), (46, .iconst 1, 1), (47, .goto 4, 3), (50, .iconst 0, 1), (51, .istore_n 3, 1), (52, .iconst 0, 1), (53, .istore 4, 2), (55, .iload 4, 2), (57, .iload_n 2, 1), (58, .if_icmp .ge 48, 3), (61, .iload_n 3, 1)] : List (Nat × Jvm.ClassFile.Instr × Nat)), decode cX8_takesKey q.1 = .ok q.2 := chk_ok _ 0 _ rfl (by decide +kernel)
theorem dX8_takesKey_0 : decode cX8_takesKey 0 = .ok (.aload_n 0, 1) := bdX8_takesKey_0 (0, .aload_n 0, 1) (List.mem_of_getElem? (i := 0) rfl)
theorem dX8_takesKey_1 : decode cX8_takesKey 1 = .ok (.getfield 203, 3) := bdX8_takesKey_0 (1, .getfield 203, 3) (List.mem_of_getElem? (i := 1) rfl)
theorem dX8_takesKey_4 : decode cX8_takesKey 4 = .ok (.iconst 1, 1) := bdX8_takesKey_0 (4, .iconst 1, 1) (List.mem_of_getElem? (i := 2) rfl)
theorem dX8_takesKey_5 : decode cX8_takesKey 5 = .ok (.if_icmp .eq 5, 3) := bdX8_takesKey_0 (5, .if_icmp .eq 5, 3) (List.mem_of_getElem? (i := 3) rfl)
theorem dX8_takesKey_8 : decode cX8_takesKey 8 = .ok (.iconst 0, 1) := bdX8_takesKey_0 (8, .iconst 0, 1) (List.mem_of_getElem? (i := 4) rfl)
theorem dX8_takesKey_9 : decode cX8_takesKey 9 = .ok (.ireturn, 1) := bdX8_takesKey_0 (9, .ireturn, 1) (List.mem_of_getElem? (i := 5) rfl)
theorem dX8_takesKey_10 : decode cX8_takesKey 10 = .ok (.iconst 0, 1) := bdX8_takesKey_0 (10, .iconst 0, 1) (List.mem_of_getElem? (i := 6) rfl)
theorem dX8_takesKey_11 : decode cX8_takesKey 11 = .ok (.istore_n 1, 1) := bdX8_takesKey_0 (11, .istore_n 1, 1) (List.mem_of_getElem? (i := 7) rfl)
theorem dX8_takesKey_12 : decode cX8_takesKey 12 = .ok (.iload_n 1, 1) := bdX8_takesKey_0 (12, .iload_n 1, 1) (List.mem_of_getElem? (i := 8) rfl)
theorem dX8_takesKey_13 : decode cX8_takesKey 13 = .ok (.iconst 3, 1) := bdX8_takesKey_0 (13, .iconst 3, 1) (List.mem_of_getElem? (i := 9) rfl)
theorem dX8_takesKey_14 : decode cX8_takesKey 14 = .ok (.if_icmp .ge 113, 3) := bdX8_takesKey_0 (14, .if_icmp .ge 113, 3) (List.mem_of_getElem? (i := 10) rfl)
theorem dX8_takesKey_17 : decode cX8_takesKey 17 = .ok (.aload_n 0, 1) := bdX8_takesKey_0 (17, .aload_n 0, 1) (List.mem_of_getElem? (i := 11) rfl)
theorem dX8_takesKey_18 : decode cX8_takesKey 18 = .ok (.getfield 32, 3) := bdX8_takesKey_0 (18, .getfield 32, 3) (List.mem_of_getElem? (i := 12) rfl)
theorem dX8_takesKey_21 : decode cX8_takesKey 21 = .ok (.iload_n 1, 1) := bdX8_takesKey_0 (21, .iload_n 1, 1) (List.mem_of_getElem? (i := 13) rfl)
theorem dX8_takesKey_22 : decode cX8_takesKey 22 = .ok (.iconst 1, 1) := bdX8_takesKey_0 (22, .iconst 1, 1) (List.mem_of_getElem? (i := 14) rfl)
theorem dX8_takesKey_23 : decode cX8_takesKey 23 = .ok (.iadd, 1) := bdX8_takesKey_0 (23, .iadd, 1) (List.mem_of_getElem? (i := 15) rfl)
theorem dX8_takesKey_24 : decode cX8_takesKey 24 = .ok (.iaload, 1) := bdX8_takesKey_0 (24, .iaload, 1) (List.mem_of_getElem? (i := 16) rfl)
theorem dX8_takesKey_25 : decode cX8_takesKey 25 = .ok (.aload_n 0, 1) := bdX8_takesKey_0 (25, .aload_n 0, 1) (List.mem_of_getElem? (i := 17) rfl)
theorem dX8_takesKey_26 : decode cX8_takesKey 26 = .ok (.getfield 32, 3) := bdX8_takesKey_0 (26, .getfield 32, 3) (List.mem_of_getElem? (i := 18) rfl)
theorem dX8_takesKey_29 : decode cX8_takesKey 29 = .ok (.iload_n 1, 1) := bdX8_takesKey_0 (29, .iload_n 1, 1) (List.mem_of_getElem? (i := 19) rfl)
theorem dX8_takesKey_30 : decode cX8_takesKey 30 = .ok (.iaload, 1) := bdX8_takesKey_0 (30, .iaload, 1) (List.mem_of_getElem? (i := 20) rfl)
theorem dX8_takesKey_31 : decode cX8_takesKey 31 = .ok (.isub, 1) := bdX8_takesKey_0 (31, .isub, 1) (List.mem_of_getElem? (i := 21) rfl)
theorem dX8_takesKey_32 : decode cX8_takesKey 32 = .ok (.istore_n 2, 1) := bdX8_takesKey_0 (32, .istore_n 2, 1) (List.mem_of_getElem? (i := 22) rfl)
theorem dX8_takesKey_33 : decode cX8_takesKey 33 = .ok (.iload_n 2, 1) := bdX8_takesKey_0 (33, .iload_n 2, 1) (List.mem_of_getElem? (i := 23) rfl)
theorem dX8_takesKey_34 : decode cX8_takesKey 34 = .ok (.aload_n 0, 1) := bdX8_takesKey_0 (34, .aload_n 0, 1) (List.mem_of_getElem? (i := 24) rfl)
theorem dX8_takesKey_35 : decode cX8_takesKey 35 = .ok (.getfield 194, 3) := bdX8_takesKey_0 (35, .getfield 194, 3) (List.mem_of_getElem? (i := 25) rfl)
theorem dX8_takesKey_38 : decode cX8_takesKey 38 = .ok (.aload_n 0, 1) := bdX8_takesKey_0 (38, .aload_n 0, 1) (List.mem_of_getElem? (i := 26) rfl)
theorem dX8_takesKey_39 : decode cX8_takesKey 39 = .ok (.getfield 197, 3) := bdX8_takesKey_0 (39, .getfield 197, 3) (List.mem_of_getElem? (i := 27) rfl)
theorem dX8_takesKey_42 : decode cX8_takesKey 42 = .ok (.isub, 1) := bdX8_takesKey_0 (42, .isub, 1) (List.mem_of_getElem? (i := 28) rfl)
theorem dX8_takesKey_43 : decode cX8_takesKey 43 = .ok (.if_icmp .ne 7, 3) := bdX8_takesKey_0 (43, .if_icmp .ne 7, 3) (List.mem_of_getElem? (i := 29) rfl)
theorem dX8_takesKey_46 : decode cX8_takesKey 46 = .ok (.iconst 1, 1) := bdX8_takesKey_0 (46, .iconst 1, 1) (List.mem_of_getElem? (i := 30) rfl)
theorem dX8_takesKey_47 : decode cX8_takesKey 47 = .ok (.goto 4, 3) := bdX8_takesKey_0 (47, .goto 4, 3) (List.mem_of_getElem? (i := 31) rfl)
theorem dX8_takesKey_50 : decode cX8_takesKey 50 = .ok (.iconst 0, 1) := bdX8_takesKey_0 (50, .iconst 0, 1) (List.mem_of_getElem? (i := 32) rfl)
theorem dX8_takesKey_51 : decode cX8_takesKey 51 = .ok (.istore_n 3, 1) := bdX8_takesKey_0 (51, .istore_n 3, 1) (List.mem_of_getElem? (i := 33) rfl)
theorem dX8_takesKey_52 : decode cX8_takesKey 52 = .ok (.iconst 0, 1) := bdX8_takesKey_0 (52, .iconst 0, 1) (List.mem_of_getElem? (i := 34) rfl)
theorem dX8_takesKey_53 : decode cX8_takesKey 53 = .ok (.istore 4, 2) := bdX8_takesKey_0 (53, .istore 4, 2) (List.mem_of_getElem? (i := 35) rfl)
theorem dX8_takesKey_55 : decode cX8_takesKey 55 = .ok (.iload 4, 2) := bdX8_takesKey_0 (55, .iload 4, 2) (List.mem_of_getElem? (i := 36) rfl)
theorem dX8_takesKey_57 : decode cX8_takesKey 57 = .ok (.iload_n 2, 1) := bdX8_takesKey_0 (57, .iload_n 2, 1) (List.mem_of_getElem? (i := 37) rfl)
theorem dX8_takesKey_58 : decode cX8_takesKey 58 = .ok (.if_icmp .ge 48, 3) := bdX8_takesKey_0 (58, .if_icmp .ge 48, 3) (List.mem_of_getElem? (i := 38) rfl)
theorem dX8_takesKey_61 : decode cX8_takesKey 61 = .ok (.iload_n 3, 1) := bdX8_takesKey_0 (61, .iload_n 3, 1) (List.mem_of_getElem? (i := 39) rfl)
theorem bdX8_takesKey_62 : ∀ q ∈ ([(62, .ifCond .eq 44, 3), (65, .aload_n 0, 1), (66, .getfield 25, 3), (69, .aload_n 0, 1), (70, .getfield 197, 3), (73, .iload 4, 2), (75, .iadd, 1), (76, .iaload, 1), (77, .aload_n 0, 1), (78, .getfield 28, 3), (81, .aload_n 0, 1), (82, .getfield 32, 3), (85, .iload_n 1, 1), (86, .iaload, 1), (87, .iload 4, 2), (89, .iadd, 1), (91, .if_icmp .ne 7, 3), (94, .iconst 1, 1), (95, .goto 4, 3), (98, .iconst 0, 1), (99, .istore_n 3, 1), (100, .iinc 4 1, 3), (103, .goto (-48), 3), (106, .iload_n 3, 1), (107, .ifCond .eq 14, 3), (110, .aload_n 0, 1), (111, .iload_n 1, 1), (112, .putfield 215, 3), (115, .aload_n 0, 1), (116, .invokevirtual 218, 3), (119, .iconst 1, 1), (120, .ireturn, 1), (121, .iinc 1 1, 3), (124, .goto (-112), 3), (127, .iconst 0, 1), (128, .ireturn, 1)] : List (Nat × Jvm.ClassFile.Instr × Nat)), decode cX8_takesKey q.1 = .ok q.2 := chk_ok _ 62 _ rfl (by decide +kernel)
theorem dX8_takesKey_62 : decode cX8_takesKey 62 = .ok (.ifCond .eq 44, 3) := bdX8_takesKey_62 (62, .ifCond .eq 44, 3) (List.mem_of_getElem? (i := 0) rfl)
theorem dX8_takesKey_65 : decode cX8_takesKey 65 = .ok (.aload_n 0, 1) := bdX8_takesKey_62 (65, .aload_n 0, 1) (List.mem_of_getElem? (i := 1) rfl)
theorem dX8_takesKey_66 : decode cX8_takesKey 66 = .ok (.getfield 25, 3) := bdX8_takesKey_62 (66, .getfield 25, 3) (List.mem_of_getElem? (i := 2) rfl)
theorem dX8_takesKey_69 : decode cX8_takesKey 69 = .ok (.aload_n 0, 1) := bdX8_takesKey_62 (69, .aload_n 0, 1) (List.mem_of_getElem? (i := 3) rfl)
theorem dX8_takesKey_70 : decode cX8_takesKey 70 = .ok (.getfield 197, 3) := bdX8_takesKey_62 (70, .getfield 197, 3) (List.mem_of_getElem? (i := 4) rfl)
theorem dX8_takesKey_73 : decode cX8_takesKey 73 = .ok (.iload 4, 2) := bdX8_takesKey_62 (73, .iload 4, 2) (List.mem_of_getElem? (i := 5) rfl)
theorem dX8_takesKey_75 : decode cX8_takesKey 75 = .ok (.iadd, 1) := bdX8_takesKey_62 (75, .iadd, 1) (List.mem_of_getElem? (i := 6) rfl)
theorem dX8_takesKey_76 : decode cX8_takesKey 76 = .ok (.iaload, 1) := bdX8_takesKey_62 (76, .iaload, 1) (List.mem_of_getElem? (i := 7) rfl)
theorem dX8_takesKey_77 : decode cX8_takesKey 77 = .ok (.aload_n 0, 1) := bdX8_takesKey_62 (77, .aload_n 0, 1) (List.mem_of_getElem? (i := 8) rfl)
theorem dX8_takesKey_78 : decode cX8_takesKey 78 = .ok (.getfield 28, 3) := bdX8_takesKey_62 (78, .getfield 28, 3) (List.mem_of_getElem? (i := 9) rfl)
theorem dX8_takesKey_81 : decode cX8_takesKey 81 = .ok (.aload_n 0, 1) := bdX8_takesKey_62 (81, .aload_n 0, 1) (List.mem_of_getElem? (i := 10) rfl)
theorem dX8_takesKey_82 : decode cX8_takesKey 82 = .ok (.getfield 32, 3) := bdX8_takesKey_62 (82, .getfield 32, 3) (List.mem_of_getElem? (i := 11) rfl)
theorem dX8_takesKey_85 : decode cX8_takesKey 85 = .ok (.iload_n 1, 1) := bdX8_takesKey_62 (85, .iload_n 1, 1) (List.mem_of_getElem? (i := 12) rfl)
theorem dX8_takesKey_86 : decode cX8_takesKey 86 = .ok (.iaload, 1) := bdX8_takesKey_62 (86, .iaload, 1) (List.mem_of_getElem? (i := 13) rfl)
theorem dX8_takesKey_87 : decode cX8_takesKey 87 = .ok (.iload 4, 2) := bdX8_takesKey_62 (87, .iload 4, 2) (List.mem_of_getElem? (i := 14) rfl)
theorem dX8_takesKey_89 : decode cX8_takesKey 89 = .ok (.iadd, 1) := bdX8_takesKey_62 (89, .iadd, 1) (List.mem_of_getElem? (i := 15) rfl)
theorem dX8_takesKey_91 : decode cX8_takesKey 91 = .ok (.if_icmp .ne 7, 3) := bdX8_takesKey_62 (91, .if_icmp .ne 7, 3) (List.mem_of_getElem? (i := 16) rfl)
theorem dX8_takesKey_94 : decode cX8_takesKey 94 = .ok (.iconst 1, 1) := bdX8_takesKey_62 (94, .iconst 1, 1) (List.mem_of_getElem? (i := 17) rfl)
theorem dX8_takesKey_95 : decode cX8_takesKey 95 = .ok (.goto 4, 3) := bdX8_takesKey_62 (95, .goto 4, 3) (List.mem_of_getElem? (i := 18) rfl)
theorem dX8_takesKey_98 : decode cX8_takesKey 98 = .ok (.iconst 0, 1) := bdX8_takesKey_62 (98, .iconst 0, 1) (List.mem_of_getElem? (i := 19) rfl)
theorem dX8_takesKey_99 : decode cX8_takesKey 99 = .ok (.istore_n 3, 1) := bdX8_takesKey_62 (99, .istore_n 3, 1) (List.mem_of_getElem? (i := 20) rfl)
theorem dX8_takesKey_100 : decode cX8_takesKey 100 = .ok (.iinc 4 1, 3) := bdX8_takesKey_62 (100, .iinc 4 1, 3) (List.mem_of_getElem? (i := 21) rfl)
theorem dX8_takesKey_103 : decode cX8_takesKey 103 = .ok (.goto (-48), 3) := bdX8_takesKey_62 (103, .goto (-48), 3) (List.mem_of_getElem? (i := 22) rfl)
theorem dX8_takesKey_106 : decode cX8_takesKey 106 = .ok (.iload_n 3, 1) := bdX8_takesKey_62 (106, .iload_n 3, 1) (List.mem_of_getElem? (i := 23) rfl)
theorem dX8_takesKey_107 : decode cX8_takesKey 107 = .ok (.ifCond .eq 14, 3) := bdX8_takesKey_62 (107, .ifCond .eq 14, 3) (List.mem_of_getElem? (i := 24) rfl)
theorem dX8_takesKey_110 : decode cX8_takesKey 110 = .ok (.aload_n 0, 1) := bdX8_takesKey_62 (110, .aload_n 0, 1) (List.mem_of_getElem? (i := 25) rfl)
theorem dX8_takesKey_111 : decode cX8_takesKey 111 = .ok (.iload_n 1, 1) := bdX8_takesKey_62 (111, .iload_n 1, 1) (List.mem_of_getElem? (i := 26) rfl)
theorem dX8_takesKey_112 : decode cX8_takesKey 112 = .ok (.putfield 215, 3) := bdX8_takesKey_62 (112, .putfield 215, 3) (List.mem_of_getElem? (i := 27) rfl)
theorem dX8_takesKey_115 : decode cX8_takesKey 115 = .ok (.aload_n 0, 1) := bdX8_takesKey_62 (115, .aload_n 0, 1) (List.mem_of_getElem? (i := 28) rfl)
theorem dX8_takesKey_116 : decode cX8_takesKey 116 = .ok (.invokevirtual 218, 3) := bdX8_takesKey_62 (116, .invokevirtual 218, 3) (List.mem_of_getElem? (i := 29) rfl)
theorem dX8_takesKey_119 : decode cX8_takesKey 119 = .ok (.iconst 1, 1) := bdX8_takesKey_62 (119, .iconst 1, 1) (List.mem_of_getElem? (i := 30) rfl)
theorem dX8_takesKey_120 : decode cX8_takesKey 120 = .ok (.ireturn, 1) := bdX8_takesKey_62 (120, .ireturn, 1) (List.mem_of_getElem? (i := 31) rfl)
theorem dX8_takesKey_121 : decode cX8_takesKey 121 = .ok (.iinc 1 1, 3) := bdX8_takesKey_62 (121, .iinc 1 1, 3) (List.mem_of_getElem? (i := 32) rfl)
theorem dX8_takesKey_124 : decode cX8_takesKey 124 = .ok (.goto (-112), 3) := bdX8_takesKey_62 (124, .goto (-112), 3) (List.mem_of_getElem? (i := 33) rfl)
theorem dX8_takesKey_127 : decode cX8_takesKey 127 = .ok (.iconst 0, 1) := bdX8_takesKey_62 (127, .iconst 0, 1) (List.mem_of_getElem? (i := 34) rfl)
theorem dX8_takesKey_128 : decode cX8_takesKey 128 = .ok (.ireturn, 1) := bdX8_takesKey_62 (128, .ireturn, 1) (List.mem_of_getElem? (i := 35) rfl)
theorem dX8_takesKey_90 : decode cX8_takesKey 90 = .ok (.caload, 1) := by decide +kernel
theorem fX8_215 : fldOK RX8 215 8 13 .int false := ⟨_, _, _, tyX8, ⟨rfl, iX8, by decide, rfl, by decide⟩, tw_950, ⟨tyX8_ok, nmX8⟩, by decide +kernel, rfl, rfl⟩
theorem kX8_218 : mthV RX8 218 8 yX8_go prog_10_method_58_code 2 (Option.none : Option Jvm.ClassFile.FieldType) 0 := ⟨⟨⟨tw_1273, tw_67, tw_1276⟩, rfl, by decide +kernel⟩, tw_1275, tw_48, rfl⟩
theorem fX8_28 : fldOK RX8 28 8 14 (.array .char) true := ⟨_, _, _, tyX8, ⟨rfl, iX8, by decide, rfl, by decide⟩, tw_951, ⟨tyX8_ok, nmX8⟩, by decide +kernel, rfl, rfl⟩
theorem fX8_32 : fldOK RX8 32 8 15 (.array .int) true := ⟨_, _, _, tyX8, ⟨rfl, iX8, by decide, rfl, by decide⟩, tw_952, ⟨tyX8_ok, nmX8⟩, by decide +kernel, rfl, rfl⟩
def BX8_takesKey_106 (ln : Nat → Nat) (post : Int32 → HC → Prop) (K12 : HC → Nat → Int32 → Prop) (S : HC) (x0 : Nat) (x1 : Int32) (x3 : Int32) : Prop := if x3 = 0 then (lt_ (x1 + (1 : Int32)) fun z1 => K12 S x0 z1) else (lt_ (sI S x0 13 x1) fun S => wpX8_go ln S x0 fun S => rb_ .boolean (1 : Int32) (post (1 : Int32) S))
def BX8_takesKey_99 (ln : Nat → Nat) (post : Int32 → HC → Prop) (K12 : HC → Nat → Int32 → Prop) (K55 : HC → Nat → Int32 → Int32 → Int32 → Int32 → Prop) (S : HC) (x0 : Nat) (x1 : Int32) (x2 : Int32) (x4 : Int32) (t0 : Int32) : Prop := lt_ (x4 + (1 : Int32)) fun z2 => K55 S x0 x1 x2 t0 z2
def LX8_takesKey_55 (ln : Nat → Nat) (post : Int32 → HC → Prop) (K12 : HC → Nat → Int32 → Prop) : Nat → HC → Nat → Int32 → Int32 → Int32 → Int32 → Prop
  | 0 => fun _ _ _ _ _ _ => False
  | n55 + 1 => fun S x0 x1 x2 x3 x4 => if x2 ≤ x4 then (BX8_takesKey_106 ln post K12 S x0 x1 x3) else (if x3 = 0 then (BX8_takesKey_106 ln post K12 S x0 x1 x3) else (dn_ (hR S x0 6) fun b3 => lt_ (hI S x0 9) fun z4 => lt_ (z4 + x4) fun z5 => al_ (ln b3) z5 (hI S b3) fun z6 => dn_ (hR S x0 14) fun b7 => dn_ (hR S x0 15) fun b8 => al_ (ln b8) x1 (hI S b8) fun z9 => lt_ (z9 + x4) fun z10 => al_ (ln b7) z10 (hI S b7) fun z11 => if z6 = z11 then (BX8_takesKey_99 ln post K12 (LX8_takesKey_55 ln post K12 n55) S x0 x1 x2 x4 (1 : Int32)) else (BX8_takesKey_99 ln post K12 (LX8_takesKey_55 ln post K12 n55) S x0 x1 x2 x4 (0 : Int32))))
def BX8_takesKey_51 (ln : Nat → Nat) (post : Int32 → HC → Prop) (K12 : HC → Nat → Int32 → Prop) (S : HC) (x0 : Nat) (x1 : Int32) (x2 : Int32) (t0 : Int32) : Prop := ∃ n55, LX8_takesKey_55 ln post K12 n55 S x0 x1 x2 t0 (0 : Int32)
def LX8_takesKey_12 (ln : Nat → Nat) (post : Int32 → HC → Prop) : Nat → HC → Nat → Int32 → Prop
  | 0 => fun _ _ _ => False
  | n12 + 1 => fun S x0 x1 => if (3 : Int32) ≤ x1 then (rb_ .boolean (0 : Int32) (post (0 : Int32) S)) else (dn_ (hR S x0 15) fun b12 => lt_ (x1 + (1 : Int32)) fun z13 => al_ (ln b12) z13 (hI S b12) fun z14 => dn_ (hR S x0 15) fun b15 => al_ (ln b15) x1 (hI S b15) fun z16 => lt_ (z14 - z16) fun z17 => lt_ (hI S x0 8) fun z18 => lt_ (hI S x0 9) fun z19 => lt_ (z18 - z19) fun z20 => if z17 = z20 then (BX8_takesKey_51 ln post (LX8_takesKey_12 ln post n12) S x0 x1 z17 (1 : Int32)) else (BX8_takesKey_51 ln post (LX8_takesKey_12 ln post n12) S x0 x1 z17 (0 : Int32)))
def wpX8_takesKey (ln : Nat → Nat) (S : HC) (a0 : Nat) (post : Int32 → HC → Prop) : Prop := lt_ (hI S a0 10) fun z21 => if z21 = (1 : Int32) then (∃ n12, LX8_takesKey_12 ln post n12 S a0 (0 : Int32)) else (rb_ .boolean (0 : Int32) (post (0 : Int32) S))
abbrev rmX8_takesKey : Room := { frames := 2, cells := 0, slots := 0, locals := 42 }
set_option maxHeartbeats 4000000 in
set_option maxRecDepth 100000 in
theorem ctX8_takesKey {l : Launch} {g : GX} {N : Nat} {ln : Nat → Nat} {S : HC} {a0 : Nat} {post : Int32 → HC → Prop} (hr_a0 : a0 < N) (hk_a0 : kd a0 = 8) (h : wpX8_takesKey ln S a0 post) : Met l yX8_takesKey (Cond.code yX8_takesKey prog_10_method_59_code 5 (Option.some Jvm.ClassFile.FieldType.boolean) :: gtbl) rmX8_takesKey (va_Pc [.ref (gz g + a0)] (AtP g N ln S)) (QI g N ln post) 0 0 (gF g) := by
  refine m_of (by decide) (Nat.le_of_ble_eq_true rfl) ?_
  intro p e s m below meth c ls F hr I hl
  have hl : lv_has ls 5 [(0, .ref (gz g + a0))] := hl
  unfold wpX8_takesKey at h
  have hl_12 : ∀ n12 : Nat, ∀ (S : HC) (H : Heap) (locs : List Loc) (ls : Array Slot) (x0 : Nat) (x1 : Int32), x0 < N → kd x0 = 8 → LX8_takesKey_12 ln post n12 S x0 x1 → Inv g N ln S s H locs → lv_has ls 5 [(0, .ref (gz g + x0)), (1, .int x1)] → W p l e rmX8_takesKey s m ([.ref (gz g + a0)] : List Value).toArray below meth c H locs 0 0 (MQ below (QI g N ln post) ([.ref (gz g + a0)] : List Value).toArray s 0 0 (gF g)) (F0 m 12 ls []) := by
    intro n12
    induction n12 with
    | zero =>
      intro S H locs ls x0 x1 hr_x0 hk_x0 h I hl
      exact h.elim
    | succ n12 ih =>
      have hk12 := ih
      have hj_106 : ∀ (S : HC) (H : Heap) (locs : List Loc) (ls : Array Slot) (x0 : Nat) (x1 : Int32) (x3 : Int32), x0 < N → kd x0 = 8 → BX8_takesKey_106 ln post (LX8_takesKey_12 ln post n12) S x0 x1 x3 → Inv g N ln S s H locs → lv_has ls 5 [(0, .ref (gz g + x0)), (1, .int x1), (3, .int x3)] → W p l e rmX8_takesKey s m ([.ref (gz g + a0)] : List Value).toArray below meth c H locs 0 0 (MQ below (QI g N ln post) ([.ref (gz g + a0)] : List Value).toArray s 0 0 (gF g)) (F0 m 106 ls []) := by
        intro S H locs ls x0 x1 x3 hr_x0 hk_x0 h I hl
        unfold BX8_takesKey_106 at h
        refine lv_iload_n F.1 F.2.1 dX8_takesKey_106 rfl (lv_at hl 2 rfl) ?_
        refine r_if_eq (tgt := 121) F dX8_takesKey_107 (by decide) h (fun h => ?_) (fun h => ?_)
        · obtain ⟨z1, e_z1, h⟩ := lt_x h
          refine lv_iinc (v := z1) (lv' := [(1, .int z1), (0, .ref (gz g + x0)), (3, .int x3)]) F.1 F.2.1 dX8_takesKey_121 hl (k := 1) rfl (by rw [e_z1]; rfl) (by decide) rfl (fun ls hl => ?_)
          refine lv_goto (tgt := 12) F.1 F.2.1 dX8_takesKey_124 (by decide) ?_
          exact hk12 S _ _ _ x0 z1 hr_x0 hk_x0 h I (lv_sub hl [1, 0] rfl)
        · refine lv_aload_n F.1 F.2.1 dX8_takesKey_110 rfl (lv_at hl 0 rfl) ?_
          refine lv_iload_n F.1 F.2.1 dX8_takesKey_111 rfl (lv_at hl 1 rfl) ?_
          refine r_putI F I hr_x0 hk_x0 fX8_215 rfl (Or.inl rfl) ⟨rfl, rfl⟩ dX8_takesKey_112 h (fun S H locs I h => ?_)
          refine lv_aload_n F.1 F.2.1 dX8_takesKey_115 rfl (lv_at hl 0 rfl) ?_
          refine g_V I (run_V (As := []) (rest := []) F I hr_x0 hk_x0 (by decide) kX8_218 (ctX8_go hr_x0 hk_x0 h) ⟨rfl, rfl⟩ ⟨Nat.le_of_ble_eq_true rfl, Nat.le_of_ble_eq_true rfl⟩ rfl hl.1 rfl (Nat.le_of_ble_eq_true rfl) ⟨Nat.le_of_ble_eq_true rfl, Nat.le_of_ble_eq_true rfl⟩ dX8_takesKey_116) (fun S H locs I h => ?_)
          refine lv_iconst (v := 1) F.1 F.2.1 dX8_takesKey_119 (by decide) ?_
          exact r_zreturn F I ⟨hr.1, hr.2.1, trivial⟩ h dX8_takesKey_120
      have hl_55 : ∀ n55 : Nat, ∀ (S : HC) (H : Heap) (locs : List Loc) (ls : Array Slot) (x0 : Nat) (x1 : Int32) (x2 : Int32) (x3 : Int32) (x4 : Int32), x0 < N → kd x0 = 8 → LX8_takesKey_55 ln post (LX8_takesKey_12 ln post n12) n55 S x0 x1 x2 x3 x4 → Inv g N ln S s H locs → lv_has ls 5 [(0, .ref (gz g + x0)), (1, .int x1), (2, .int x2), (3, .int x3), (4, .int x4)] → W p l e rmX8_takesKey s m ([.ref (gz g + a0)] : List Value).toArray below meth c H locs 0 0 (MQ below (QI g N ln post) ([.ref (gz g + a0)] : List Value).toArray s 0 0 (gF g)) (F0 m 55 ls []) := by
        intro n55
        induction n55 with
        | zero =>
          intro S H locs ls x0 x1 x2 x3 x4 hr_x0 hk_x0 h I hl
          exact h.elim
        | succ n55 ih =>
          have hk55 := ih
          have hj_99 : ∀ (S : HC) (H : Heap) (locs : List Loc) (ls : Array Slot) (x0 : Nat) (x1 : Int32) (x2 : Int32) (x4 : Int32) (t0 : Int32), x0 < N → kd x0 = 8 → BX8_takesKey_99 ln post (LX8_takesKey_12 ln post n12) (LX8_takesKey_55 ln post (LX8_takesKey_12 ln post n12) n55) S x0 x1 x2 x4 t0 → Inv g N ln S s H locs → lv_has ls 5 [(0, .ref (gz g + x0)), (1, .int x1), (2, .int x2), (4, .int x4)] → W p l e rmX8_takesKey s m ([.ref (gz g + a0)] : List Value).toArray below meth c H locs 0 0 (MQ below (QI g N ln post) ([.ref (gz g + a0)] : List Value).toArray s 0 0 (gF g)) (F0 m 99 ls [.int t0]) := by
            intro S H locs ls x0 x1 x2 x4 t0 hr_x0 hk_x0 h I hl
            unfold BX8_takesKey_99 at h
            refine lv_istore_n (lv' := [(3, .int t0), (0, .ref (gz g + x0)), (1, .int x1), (2, .int x2), (4, .int x4)]) F.1 F.2.1 dX8_takesKey_99 rfl hl (by decide) rfl (fun ls hl => ?_)
            obtain ⟨z2, e_z2, h⟩ := lt_x h
            refine lv_iinc (v := z2) (lv' := [(4, .int z2), (3, .int t0), (0, .ref (gz g + x0)), (1, .int x1), (2, .int x2)]) F.1 F.2.1 dX8_takesKey_100 hl (k := 4) rfl (by rw [e_z2]; rfl) (by decide) rfl (fun ls hl => ?_)
            refine lv_goto (tgt := 55) F.1 F.2.1 dX8_takesKey_103 (by decide) ?_
            exact hk55 S _ _ _ x0 x1 x2 t0 z2 hr_x0 hk_x0 h I (lv_sub hl [2, 3, 4, 1, 0] rfl)
          intro S H locs ls x0 x1 x2 x3 x4 hr_x0 hk_x0 h I hl
          rw [LX8_takesKey_55] at h
          refine lv_iload F.1 F.2.1 dX8_takesKey_55 (lv_at hl 4 rfl) ?_
          refine lv_iload_n F.1 F.2.1 dX8_takesKey_57 rfl (lv_at hl 2 rfl) ?_
          refine r_icmp_ge (tgt := 106) F dX8_takesKey_58 (by decide) h (fun h => ?_) (fun h => ?_)
          · exact hj_106 S _ _ _ x0 x1 x3 hr_x0 hk_x0 h I (lv_sub hl [0, 1, 3] rfl)
          · refine lv_iload_n F.1 F.2.1 dX8_takesKey_61 rfl (lv_at hl 3 rfl) ?_
            refine r_if_eq (tgt := 106) F dX8_takesKey_62 (by decide) h (fun h => ?_) (fun h => ?_)
            · exact hj_106 S _ _ _ x0 x1 x3 hr_x0 hk_x0 h I (lv_sub hl [0, 1, 3] rfl)
            · refine lv_aload_n F.1 F.2.1 dX8_takesKey_65 rfl (lv_at hl 0 rfl) ?_
              refine r_getN F I hr_x0 hk_x0 fX8_25 (f := 9) rfl (by decide) dX8_takesKey_66 h (fun b3 hr_b3 hk_b3 h => ?_)
              refine lv_aload_n F.1 F.2.1 dX8_takesKey_69 rfl (lv_at hl 0 rfl) ?_
              refine r_getI F I hr_x0 hk_x0 fX8_197 rfl dX8_takesKey_70 h (fun z4 h => ?_)
              refine lv_iload F.1 F.2.1 dX8_takesKey_73 (lv_at hl 4 rfl) ?_
              refine r_iadd F dX8_takesKey_75 h (fun z5 h => ?_)
              refine r_ald F I hr_b3 hk_b3 dX8_takesKey_76 h (fun z6 h => ?_)
              refine lv_aload_n F.1 F.2.1 dX8_takesKey_77 rfl (lv_at hl 0 rfl) ?_
              refine r_getN F I hr_x0 hk_x0 fX8_28 (f := 12) rfl (by decide) dX8_takesKey_78 h (fun b7 hr_b7 hk_b7 h => ?_)
              refine lv_aload_n F.1 F.2.1 dX8_takesKey_81 rfl (lv_at hl 0 rfl) ?_
              refine r_getN F I hr_x0 hk_x0 fX8_32 (f := 9) rfl (by decide) dX8_takesKey_82 h (fun b8 hr_b8 hk_b8 h => ?_)
              refine lv_iload_n F.1 F.2.1 dX8_takesKey_85 rfl (lv_at hl 1 rfl) ?_
              refine r_ald F I hr_b8 hk_b8 dX8_takesKey_86 h (fun z9 h => ?_)
              refine lv_iload F.1 F.2.1 dX8_takesKey_87 (lv_at hl 4 rfl) ?_
              refine r_iadd F dX8_takesKey_89 h (fun z10 h => ?_)
              refine r_cald F I hr_b7 hk_b7 dX8_takesKey_90 h (fun z11 h => ?_)
              refine r_icmp_ne (tgt := 98) F dX8_takesKey_91 (by decide) h (fun h => ?_) (fun h => ?_)
              · refine lv_iconst (v := 0) F.1 F.2.1 dX8_takesKey_98 (by decide) ?_
                exact hj_99 S _ _ _ x0 x1 x2 x4 (0 : Int32) hr_x0 hk_x0 h I (lv_sub hl [0, 1, 2, 4] rfl)
              · refine lv_iconst (v := 1) F.1 F.2.1 dX8_takesKey_94 (by decide) ?_
                refine lv_goto (tgt := 99) F.1 F.2.1 dX8_takesKey_95 (by decide) ?_
                exact hj_99 S _ _ _ x0 x1 x2 x4 (1 : Int32) hr_x0 hk_x0 h I (lv_sub hl [0, 1, 2, 4] rfl)
      have hj_51 : ∀ (S : HC) (H : Heap) (locs : List Loc) (ls : Array Slot) (x0 : Nat) (x1 : Int32) (x2 : Int32) (t0 : Int32), x0 < N → kd x0 = 8 → BX8_takesKey_51 ln post (LX8_takesKey_12 ln post n12) S x0 x1 x2 t0 → Inv g N ln S s H locs → lv_has ls 5 [(0, .ref (gz g + x0)), (1, .int x1), (2, .int x2)] → W p l e rmX8_takesKey s m ([.ref (gz g + a0)] : List Value).toArray below meth c H locs 0 0 (MQ below (QI g N ln post) ([.ref (gz g + a0)] : List Value).toArray s 0 0 (gF g)) (F0 m 51 ls [.int t0]) := by
        intro S H locs ls x0 x1 x2 t0 hr_x0 hk_x0 h I hl
        unfold BX8_takesKey_51 at h
        refine lv_istore_n (lv' := [(3, .int t0), (0, .ref (gz g + x0)), (1, .int x1), (2, .int x2)]) F.1 F.2.1 dX8_takesKey_51 rfl hl (by decide) rfl (fun ls hl => ?_)
        refine lv_iconst (v := 0) F.1 F.2.1 dX8_takesKey_52 (by decide) ?_
        refine lv_istore (lv' := [(4, .int (0 : Int32)), (3, .int t0), (0, .ref (gz g + x0)), (1, .int x1), (2, .int x2)]) F.1 F.2.1 dX8_takesKey_53 hl (by decide) rfl (fun ls hl => ?_)
        obtain ⟨n55, h⟩ := h
        exact hl_55 n55 S _ _ _ x0 x1 x2 t0 (0 : Int32) hr_x0 hk_x0 h I (lv_sub hl [2, 3, 4, 1, 0] rfl)
      intro S H locs ls x0 x1 hr_x0 hk_x0 h I hl
      rw [LX8_takesKey_12] at h
      refine lv_iload_n F.1 F.2.1 dX8_takesKey_12 rfl (lv_at hl 1 rfl) ?_
      refine lv_iconst (v := 3) F.1 F.2.1 dX8_takesKey_13 (by decide) ?_
      refine r_icmp_ge (tgt := 127) F dX8_takesKey_14 (by decide) h (fun h => ?_) (fun h => ?_)
      · refine lv_iconst (v := 0) F.1 F.2.1 dX8_takesKey_127 (by decide) ?_
        exact r_zreturn F I ⟨hr.1, hr.2.1, trivial⟩ h dX8_takesKey_128
      · refine lv_aload_n F.1 F.2.1 dX8_takesKey_17 rfl (lv_at hl 0 rfl) ?_
        refine r_getN F I hr_x0 hk_x0 fX8_32 (f := 9) rfl (by decide) dX8_takesKey_18 h (fun b12 hr_b12 hk_b12 h => ?_)
        refine lv_iload_n F.1 F.2.1 dX8_takesKey_21 rfl (lv_at hl 1 rfl) ?_
        refine lv_iconst (v := 1) F.1 F.2.1 dX8_takesKey_22 (by decide) ?_
        refine r_iadd F dX8_takesKey_23 h (fun z13 h => ?_)
        refine r_ald F I hr_b12 hk_b12 dX8_takesKey_24 h (fun z14 h => ?_)
        refine lv_aload_n F.1 F.2.1 dX8_takesKey_25 rfl (lv_at hl 0 rfl) ?_
        refine r_getN F I hr_x0 hk_x0 fX8_32 (f := 9) rfl (by decide) dX8_takesKey_26 h (fun b15 hr_b15 hk_b15 h => ?_)
        refine lv_iload_n F.1 F.2.1 dX8_takesKey_29 rfl (lv_at hl 1 rfl) ?_
        refine r_ald F I hr_b15 hk_b15 dX8_takesKey_30 h (fun z16 h => ?_)
        refine r_isub F dX8_takesKey_31 h (fun z17 h => ?_)
        refine lv_istore_n (lv' := [(2, .int z17), (0, .ref (gz g + x0)), (1, .int x1)]) F.1 F.2.1 dX8_takesKey_32 rfl hl (by decide) rfl (fun ls hl => ?_)
        refine lv_iload_n F.1 F.2.1 dX8_takesKey_33 rfl (lv_at hl 0 rfl) ?_
        refine lv_aload_n F.1 F.2.1 dX8_takesKey_34 rfl (lv_at hl 1 rfl) ?_
        refine r_getI F I hr_x0 hk_x0 fX8_194 rfl dX8_takesKey_35 h (fun z18 h => ?_)
        refine lv_aload_n F.1 F.2.1 dX8_takesKey_38 rfl (lv_at hl 1 rfl) ?_
        refine r_getI F I hr_x0 hk_x0 fX8_197 rfl dX8_takesKey_39 h (fun z19 h => ?_)
        refine r_isub F dX8_takesKey_42 h (fun z20 h => ?_)
        refine r_icmp_ne (tgt := 50) F dX8_takesKey_43 (by decide) h (fun h => ?_) (fun h => ?_)
        · refine lv_iconst (v := 0) F.1 F.2.1 dX8_takesKey_50 (by decide) ?_
          exact hj_51 S _ _ _ x0 x1 z17 (0 : Int32) hr_x0 hk_x0 h I (lv_sub hl [1, 2, 0] rfl)
        · refine lv_iconst (v := 1) F.1 F.2.1 dX8_takesKey_46 (by decide) ?_
          refine lv_goto (tgt := 51) F.1 F.2.1 dX8_takesKey_47 (by decide) ?_
          exact hj_51 S _ _ _ x0 x1 z17 (1 : Int32) hr_x0 hk_x0 h I (lv_sub hl [1, 2, 0] rfl)
  refine lv_aload_n F.1 F.2.1 dX8_takesKey_0 rfl (lv_at hl 0 rfl) ?_
  refine r_getI F I hr_a0 hk_a0 fX8_203 rfl dX8_takesKey_1 h (fun z21 h => ?_)
  refine lv_iconst (v := 1) F.1 F.2.1 dX8_takesKey_4 (by decide) ?_
  refine r_icmp_eq (tgt := 10) F dX8_takesKey_5 (by decide) h (fun h => ?_) (fun h => ?_)
  · refine lv_iconst (v := 0) F.1 F.2.1 dX8_takesKey_10 (by decide) ?_
    refine lv_istore_n (lv' := [(1, .int (0 : Int32)), (0, .ref (gz g + a0))]) F.1 F.2.1 dX8_takesKey_11 rfl hl (by decide) rfl (fun ls hl => ?_)
    obtain ⟨n12, h⟩ := h
    exact hl_12 n12 S _ _ _ a0 (0 : Int32) hr_a0 hk_a0 h I (lv_sub hl [1, 0] rfl)
  · refine lv_iconst (v := 0) F.1 F.2.1 dX8_takesKey_8 (by decide) ?_
    exact r_zreturn F I ⟨hr.1, hr.2.1, trivial⟩ h dX8_takesKey_9
theorem bdX8_nameOf_0 : ∀ q ∈ ([(0, .aload_n 0, 1), (1, .getfield 215, 3), (32, .iload_n 1, 1), (33, .bipush 102, 2), (35, .if_icmp .ne 7, 3), (38, .iconst 0, 1), (39, .goto 24, 3), (42, .iload_n 1, 1), (43, .bipush 109, 2), (45, .if_icmp .ne 7, 3), (48, .iconst 1, 1), (49, .goto 14, 3), (52, .iload_n 1, 1), (53, .bipush 110, 2), (55, .if_icmp .ne 7, 3), (58, .iconst 2, 1), (59, .goto 4, 3), (62, .iconst (-1), 1), (63, .ireturn, 1), (64, .iload_n 1, 1), (65, .bipush 121, 2), (67, .if_icmp .ne 7, 3), (70, .iconst 0, 1), (71, .goto 14, 3), (74, .iload_n 1, 1), (75, .bipush 112, 2), (77, .if_icmp .ne 7, 3), (80, .iconst 1, 1), (81, .goto 4, 3), (84, .iconst (-1), 1), (85, .ireturn, 1), (86, .iload_n 1, 1), (87, .bipush 97, 2), (89, .if_icmp .ne 7, 3), (92, .iconst 0, 1), (93, .goto 14, 3), (96, .iload_n 1, 1), (97, .bipush 98, 2), (99, .if_icmp .ne 7, 3), (102, .iconst 1, 1)] : List (Nat × Jvm.ClassFile.Instr × Nat)), decode cX8_nameOf q.1 = .ok q.2 := chk_ok _ 0 _ rfl (by decide +kernel)
theorem dX8_nameOf_0 : decode cX8_nameOf 0 = .ok (.aload_n 0, 1) := bdX8_nameOf_0 (0, .aload_n 0, 1) (List.mem_of_getElem? (i := 0) rfl)
theorem dX8_nameOf_1 : decode cX8_nameOf 1 = .ok (.getfield 215, 3) := bdX8_nameOf_0 (1, .getfield 215, 3) (List.mem_of_getElem? (i := 1) rfl)
theorem dX8_nameOf_32 : decode cX8_nameOf 32 = .ok (.iload_n 1, 1) := bdX8_nameOf_0 (32, .iload_n 1, 1) (List.mem_of_getElem? (i := 2) rfl)
theorem dX8_nameOf_33 : decode cX8_nameOf 33 = .ok (.bipush 102, 2) := bdX8_nameOf_0 (33, .bipush 102, 2) (List.mem_of_getElem? (i := 3) rfl)
theorem dX8_nameOf_35 : decode cX8_nameOf 35 = .ok (.if_icmp .ne 7, 3) := bdX8_nameOf_0 (35, .if_icmp .ne 7, 3) (List.mem_of_getElem? (i := 4) rfl)
theorem dX8_nameOf_38 : decode cX8_nameOf 38 = .ok (.iconst 0, 1) := bdX8_nameOf_0 (38, .iconst 0, 1) (List.mem_of_getElem? (i := 5) rfl)
theorem dX8_nameOf_39 : decode cX8_nameOf 39 = .ok (.goto 24, 3) := bdX8_nameOf_0 (39, .goto 24, 3) (List.mem_of_getElem? (i := 6) rfl)
theorem dX8_nameOf_42 : decode cX8_nameOf 42 = .ok (.iload_n 1, 1) := bdX8_nameOf_0 (42, .iload_n 1, 1) (List.mem_of_getElem? (i := 7) rfl)
theorem dX8_nameOf_43 : decode cX8_nameOf 43 = .ok (.bipush 109, 2) := bdX8_nameOf_0 (43, .bipush 109, 2) (List.mem_of_getElem? (i := 8) rfl)
theorem dX8_nameOf_45 : decode cX8_nameOf 45 = .ok (.if_icmp .ne 7, 3) := bdX8_nameOf_0 (45, .if_icmp .ne 7, 3) (List.mem_of_getElem? (i := 9) rfl)
theorem dX8_nameOf_48 : decode cX8_nameOf 48 = .ok (.iconst 1, 1) := bdX8_nameOf_0 (48, .iconst 1, 1) (List.mem_of_getElem? (i := 10) rfl)
theorem dX8_nameOf_49 : decode cX8_nameOf 49 = .ok (.goto 14, 3) := bdX8_nameOf_0 (49, .goto 14, 3) (List.mem_of_getElem? (i := 11) rfl)
theorem dX8_nameOf_52 : decode cX8_nameOf 52 = .ok (.iload_n 1, 1) := bdX8_nameOf_0 (52, .iload_n 1, 1) (List.mem_of_getElem? (i := 12) rfl)
theorem dX8_nameOf_53 : decode cX8_nameOf 53 = .ok (.bipush 110, 2) := bdX8_nameOf_0 (53, .bipush 110, 2) (List.mem_of_getElem? (i := 13) rfl)
theorem dX8_nameOf_55 : decode cX8_nameOf 55 = .ok (.if_icmp .ne 7, 3) := bdX8_nameOf_0 (55, .if_icmp .ne 7, 3) (List.mem_of_getElem? (i := 14) rfl)
theorem dX8_nameOf_58 : decode cX8_nameOf 58 = .ok (.iconst 2, 1) := bdX8_nameOf_0 (58, .iconst 2, 1) (List.mem_of_getElem? (i := 15) rfl)
theorem dX8_nameOf_59 : decode cX8_nameOf 59 = .ok (.goto 4, 3) := bdX8_nameOf_0 (59, .goto 4, 3) (List.mem_of_getElem? (i := 16) rfl)
theorem dX8_nameOf_62 : decode cX8_nameOf 62 = .ok (.iconst (-1), 1) := bdX8_nameOf_0 (62, .iconst (-1), 1) (List.mem_of_getElem? (i := 17) rfl)
theorem dX8_nameOf_63 : decode cX8_nameOf 63 = .ok (.ireturn, 1) := bdX8_nameOf_0 (63, .ireturn, 1) (List.mem_of_getElem? (i := 18) rfl)
theorem dX8_nameOf_64 : decode cX8_nameOf 64 = .ok (.iload_n 1, 1) := bdX8_nameOf_0 (64, .iload_n 1, 1) (List.mem_of_getElem? (i := 19) rfl)
theorem dX8_nameOf_65 : decode cX8_nameOf 65 = .ok (.bipush 121, 2) := bdX8_nameOf_0 (65, .bipush 121, 2) (List.mem_of_getElem? (i := 20) rfl)
theorem dX8_nameOf_67 : decode cX8_nameOf 67 = .ok (.if_icmp .ne 7, 3) := bdX8_nameOf_0 (67, .if_icmp .ne 7, 3) (List.mem_of_getElem? (i := 21) rfl)
theorem dX8_nameOf_70 : decode cX8_nameOf 70 = .ok (.iconst 0, 1) := bdX8_nameOf_0 (70, .iconst 0, 1) (List.mem_of_getElem? (i := 22) rfl)
theorem dX8_nameOf_71 : decode cX8_nameOf 71 = .ok (.goto 14, 3) := bdX8_nameOf_0 (71, .goto 14, 3) (List.mem_of_getElem? (i := 23) rfl)
theorem dX8_nameOf_74 : decode cX8_nameOf 74 = .ok (.iload_n 1, 1) := bdX8_nameOf_0 (74, .iload_n 1, 1) (List.mem_of_getElem? (i := 24) rfl)
theorem dX8_nameOf_75 : decode cX8_nameOf 75 = .ok (.bipush 112, 2) := bdX8_nameOf_0 (75, .bipush 112, 2) (List.mem_of_getElem? (i := 25) rfl)
theorem dX8_nameOf_77 : decode cX8_nameOf 77 = .ok (.if_icmp .ne 7, 3) := bdX8_nameOf_0 (77, .if_icmp .ne 7, 3) (List.mem_of_getElem? (i := 26) rfl)
theorem dX8_nameOf_80 : decode cX8_nameOf 80 = .ok (.iconst 1, 1) := bdX8_nameOf_0 (80, .iconst 1, 1) (List.mem_of_getElem? (i := 27) rfl)
theorem dX8_nameOf_81 : decode cX8_nameOf 81 = .ok (.goto 4, 3) := bdX8_nameOf_0 (81, .goto 4, 3) (List.mem_of_getElem? (i := 28) rfl)
theorem dX8_nameOf_84 : decode cX8_nameOf 84 = .ok (.iconst (-1), 1) := bdX8_nameOf_0 (84, .iconst (-1), 1) (List.mem_of_getElem? (i := 29) rfl)
theorem dX8_nameOf_85 : decode cX8_nameOf 85 = .ok (.ireturn, 1) := bdX8_nameOf_0 (85, .ireturn, 1) (List.mem_of_getElem? (i := 30) rfl)
theorem dX8_nameOf_86 : decode cX8_nameOf 86 = .ok (.iload_n 1, 1) := bdX8_nameOf_0 (86, .iload_n 1, 1) (List.mem_of_getElem? (i := 31) rfl)
theorem dX8_nameOf_87 : decode cX8_nameOf 87 = .ok (.bipush 97, 2) := bdX8_nameOf_0 (87, .bipush 97, 2) (List.mem_of_getElem? (i := 32) rfl)
theorem dX8_nameOf_89 : decode cX8_nameOf 89 = .ok (.if_icmp .ne 7, 3) := bdX8_nameOf_0 (89, .if_icmp .ne 7, 3) (List.mem_of_getElem? (i := 33) rfl)
theorem dX8_nameOf_92 : decode cX8_nameOf 92 = .ok (.iconst 0, 1) := bdX8_nameOf_0 (92, .iconst 0, 1) (List.mem_of_getElem? (i := 34) rfl)
theorem dX8_nameOf_93 : decode cX8_nameOf 93 = .ok (.goto 14, 3) := bdX8_nameOf_0 (93, .goto 14, 3) (List.mem_of_getElem? (i := 35) rfl)
theorem dX8_nameOf_96 : decode cX8_nameOf 96 = .ok (.iload_n 1, 1) := bdX8_nameOf_0 (96, .iload_n 1, 1) (List.mem_of_getElem? (i := 36) rfl)
theorem dX8_nameOf_97 : decode cX8_nameOf 97 = .ok (.bipush 98, 2) := bdX8_nameOf_0 (97, .bipush 98, 2) (List.mem_of_getElem? (i := 37) rfl)
theorem dX8_nameOf_99 : decode cX8_nameOf 99 = .ok (.if_icmp .ne 7, 3) := bdX8_nameOf_0 (99, .if_icmp .ne 7, 3) (List.mem_of_getElem? (i := 38) rfl)
theorem dX8_nameOf_102 : decode cX8_nameOf 102 = .ok (.iconst 1, 1) := bdX8_nameOf_0 (102, .iconst 1, 1) (List.mem_of_getElem? (i := 39) rfl)
theorem bdX8_nameOf_103 : ∀ q ∈ ([(103, .goto 4, 3), (106, .iconst (-1), 1), (107, .ireturn, 1)] : List (Nat × Jvm.ClassFile.Instr × Nat)), decode cX8_nameOf q.1 = .ok q.2 := chk_ok _ 103 _ rfl (by decide +kernel)
theorem dX8_nameOf_103 : decode cX8_nameOf 103 = .ok (.goto 4, 3) := bdX8_nameOf_103 (103, .goto 4, 3) (List.mem_of_getElem? (i := 0) rfl)
theorem dX8_nameOf_106 : decode cX8_nameOf 106 = .ok (.iconst (-1), 1) := bdX8_nameOf_103 (106, .iconst (-1), 1) (List.mem_of_getElem? (i := 1) rfl)
theorem dX8_nameOf_107 : decode cX8_nameOf 107 = .ok (.ireturn, 1) := bdX8_nameOf_103 (107, .ireturn, 1) (List.mem_of_getElem? (i := 2) rfl)
theorem dX8_nameOf_4 : decode cX8_nameOf 4 = .ok (.lookupswitch 82 #[(0, 28), (1, 60)], 28) := by decide +kernel
def wpX8_nameOf (ln : Nat → Nat) (S : HC) (a0 : Nat) (a1 : Int32) (post : Int32 → HC → Prop) : Prop := lt_ (hI S a0 13) fun z1 => if z1 = (0 : Int32) then (if a1 = (102 : Int32) then (post (0 : Int32) S) else (if a1 = (109 : Int32) then (post (1 : Int32) S) else (if a1 = (110 : Int32) then (post (2 : Int32) S) else (post (-1 : Int32) S)))) else if z1 = (1 : Int32) then (if a1 = (121 : Int32) then (post (0 : Int32) S) else (if a1 = (112 : Int32) then (post (1 : Int32) S) else (post (-1 : Int32) S))) else if a1 = (97 : Int32) then (post (0 : Int32) S) else (if a1 = (98 : Int32) then (post (1 : Int32) S) else (post (-1 : Int32) S))
abbrev rmX8_nameOf : Room := { frames := 0, cells := 0, slots := 0, locals := 0 }
set_option maxHeartbeats 4000000 in
set_option maxRecDepth 100000 in
theorem ctX8_nameOf {l : Launch} {g : GX} {N : Nat} {ln : Nat → Nat} {S : HC} {a0 : Nat} {a1 : Int32} {post : Int32 → HC → Prop} (hr_a0 : a0 < N) (hk_a0 : kd a0 = 8) (h : wpX8_nameOf ln S a0 a1 post) : Met l yX8_nameOf (Cond.code yX8_nameOf prog_10_method_60_code 2 (Option.some Jvm.ClassFile.FieldType.int) :: gtbl) rmX8_nameOf (va_Pc [.ref (gz g + a0), .int a1] (AtP g N ln S)) (QI g N ln post) 0 0 (gF g) := by
  refine m_of (by decide) (Nat.le_of_ble_eq_true rfl) ?_
  intro p e s m below meth c ls F hr I hl
  have hl : lv_has ls 2 [(0, .ref (gz g + a0)), (1, .int a1)] := hl
  unfold wpX8_nameOf at h
  refine lv_aload_n F.1 F.2.1 dX8_nameOf_0 rfl (lv_at hl 0 rfl) ?_
  refine r_getI F I hr_a0 hk_a0 fX8_215 rfl dX8_nameOf_1 h (fun z1 h => ?_)
  by_cases c0 : z1 = (0 : Int32)
  · rw [if_pos c0] at h
    refine lv_lookup (off := 28) (tgt := 32) F.1 F.2.1 dX8_nameOf_4 (by decide) (by rw [c0]; rfl) (by decide) ?_
    refine lv_iload_n F.1 F.2.1 dX8_nameOf_32 rfl (lv_at hl 1 rfl) ?_
    refine lv_bipush (v := 102) F.1 F.2.1 dX8_nameOf_33 (by decide) ?_
    refine r_icmp_ne (tgt := 42) F dX8_nameOf_35 (by decide) h (fun h => ?_) (fun h => ?_)
    · refine lv_iload_n F.1 F.2.1 dX8_nameOf_42 rfl (lv_at hl 1 rfl) ?_
      refine lv_bipush (v := 109) F.1 F.2.1 dX8_nameOf_43 (by decide) ?_
      refine r_icmp_ne (tgt := 52) F dX8_nameOf_45 (by decide) h (fun h => ?_) (fun h => ?_)
      · refine lv_iload_n F.1 F.2.1 dX8_nameOf_52 rfl (lv_at hl 1 rfl) ?_
        refine lv_bipush (v := 110) F.1 F.2.1 dX8_nameOf_53 (by decide) ?_
        refine r_icmp_ne (tgt := 62) F dX8_nameOf_55 (by decide) h (fun h => ?_) (fun h => ?_)
        · refine lv_iconst (v := -1) F.1 F.2.1 dX8_nameOf_62 (by decide) ?_
          exact r_ireturn F I ⟨hr.1, hr.2.1, trivial⟩ h dX8_nameOf_63
        · refine lv_iconst (v := 2) F.1 F.2.1 dX8_nameOf_58 (by decide) ?_
          refine lv_goto (tgt := 63) F.1 F.2.1 dX8_nameOf_59 (by decide) ?_
          exact r_ireturn F I ⟨hr.1, hr.2.1, trivial⟩ h dX8_nameOf_63
      · refine lv_iconst (v := 1) F.1 F.2.1 dX8_nameOf_48 (by decide) ?_
        refine lv_goto (tgt := 63) F.1 F.2.1 dX8_nameOf_49 (by decide) ?_
        exact r_ireturn F I ⟨hr.1, hr.2.1, trivial⟩ h dX8_nameOf_63
    · refine lv_iconst (v := 0) F.1 F.2.1 dX8_nameOf_38 (by decide) ?_
      refine lv_goto (tgt := 63) F.1 F.2.1 dX8_nameOf_39 (by decide) ?_
      exact r_ireturn F I ⟨hr.1, hr.2.1, trivial⟩ h dX8_nameOf_63
  · rw [if_neg c0] at h
    by_cases c1 : z1 = (1 : Int32)
    · rw [if_pos c1] at h
      refine lv_lookup (off := 60) (tgt := 64) F.1 F.2.1 dX8_nameOf_4 (by decide) (by rw [c1]; rfl) (by decide) ?_
      refine lv_iload_n F.1 F.2.1 dX8_nameOf_64 rfl (lv_at hl 1 rfl) ?_
      refine lv_bipush (v := 121) F.1 F.2.1 dX8_nameOf_65 (by decide) ?_
      refine r_icmp_ne (tgt := 74) F dX8_nameOf_67 (by decide) h (fun h => ?_) (fun h => ?_)
      · refine lv_iload_n F.1 F.2.1 dX8_nameOf_74 rfl (lv_at hl 1 rfl) ?_
        refine lv_bipush (v := 112) F.1 F.2.1 dX8_nameOf_75 (by decide) ?_
        refine r_icmp_ne (tgt := 84) F dX8_nameOf_77 (by decide) h (fun h => ?_) (fun h => ?_)
        · refine lv_iconst (v := -1) F.1 F.2.1 dX8_nameOf_84 (by decide) ?_
          exact r_ireturn F I ⟨hr.1, hr.2.1, trivial⟩ h dX8_nameOf_85
        · refine lv_iconst (v := 1) F.1 F.2.1 dX8_nameOf_80 (by decide) ?_
          refine lv_goto (tgt := 85) F.1 F.2.1 dX8_nameOf_81 (by decide) ?_
          exact r_ireturn F I ⟨hr.1, hr.2.1, trivial⟩ h dX8_nameOf_85
      · refine lv_iconst (v := 0) F.1 F.2.1 dX8_nameOf_70 (by decide) ?_
        refine lv_goto (tgt := 85) F.1 F.2.1 dX8_nameOf_71 (by decide) ?_
        exact r_ireturn F I ⟨hr.1, hr.2.1, trivial⟩ h dX8_nameOf_85
    · rw [if_neg c1] at h
      refine lv_lookup (off := 82) (tgt := 86) F.1 F.2.1 dX8_nameOf_4 (by decide) (by show Op.lookupswitch.offset [(0, 28), (1, 60)] (82) _ = _; rw [lv_osw c0 (by decide), lv_osw c1 (by decide)]; rfl) (by decide) ?_
      refine lv_iload_n F.1 F.2.1 dX8_nameOf_86 rfl (lv_at hl 1 rfl) ?_
      refine lv_bipush (v := 97) F.1 F.2.1 dX8_nameOf_87 (by decide) ?_
      refine r_icmp_ne (tgt := 96) F dX8_nameOf_89 (by decide) h (fun h => ?_) (fun h => ?_)
      · refine lv_iload_n F.1 F.2.1 dX8_nameOf_96 rfl (lv_at hl 1 rfl) ?_
        refine lv_bipush (v := 98) F.1 F.2.1 dX8_nameOf_97 (by decide) ?_
        refine r_icmp_ne (tgt := 106) F dX8_nameOf_99 (by decide) h (fun h => ?_) (fun h => ?_)
        · refine lv_iconst (v := -1) F.1 F.2.1 dX8_nameOf_106 (by decide) ?_
          exact r_ireturn F I ⟨hr.1, hr.2.1, trivial⟩ h dX8_nameOf_107
        · refine lv_iconst (v := 1) F.1 F.2.1 dX8_nameOf_102 (by decide) ?_
          refine lv_goto (tgt := 107) F.1 F.2.1 dX8_nameOf_103 (by decide) ?_
          exact r_ireturn F I ⟨hr.1, hr.2.1, trivial⟩ h dX8_nameOf_107
      · refine lv_iconst (v := 0) F.1 F.2.1 dX8_nameOf_92 (by decide) ?_
        refine lv_goto (tgt := 107) F.1 F.2.1 dX8_nameOf_93 (by decide) ?_
        exact r_ireturn F I ⟨hr.1, hr.2.1, trivial⟩ h dX8_nameOf_107
theorem bdX8_rank_0 : ∀ q ∈ ([(0, .iload_n 0, 1), (1, .iconst (-1), 1), (2, .if_icmp .ne 7, 3), (5, .iconst 1, 1), (6, .goto 45, 3), (9, .iload_n 0, 1), (10, .bipush (-2), 2), (12, .if_icmp .ne 7, 3), (15, .iconst 2, 1), (16, .goto 35, 3), (19, .iload_n 0, 1), (20, .bipush (-5), 2), (22, .if_icmp .lt 7, 3), (25, .iconst 3, 1), (26, .goto 25, 3), (29, .iload_n 0, 1), (30, .bipush (-7), 2), (32, .if_icmp .lt 7, 3), (35, .iconst 4, 1), (36, .goto 15, 3), (39, .iload_n 0, 1), (40, .bipush (-9), 2), (42, .if_icmp .lt 7, 3), (45, .iconst 5, 1), (46, .goto 5, 3), (49, .bipush 6, 2), (51, .ireturn, 1)] : List (Nat × Jvm.ClassFile.Instr × Nat)), decode cX8_rank q.1 = .ok q.2 := chk_ok _ 0 _ rfl (by decide +kernel)
theorem dX8_rank_0 : decode cX8_rank 0 = .ok (.iload_n 0, 1) := bdX8_rank_0 (0, .iload_n 0, 1) (List.mem_of_getElem? (i := 0) rfl)
theorem dX8_rank_1 : decode cX8_rank 1 = .ok (.iconst (-1), 1) := bdX8_rank_0 (1, .iconst (-1), 1) (List.mem_of_getElem? (i := 1) rfl)
theorem dX8_rank_2 : decode cX8_rank 2 = .ok (.if_icmp .ne 7, 3) := bdX8_rank_0 (2, .if_icmp .ne 7, 3) (List.mem_of_getElem? (i := 2) rfl)
theorem dX8_rank_5 : decode cX8_rank 5 = .ok (.iconst 1, 1) := bdX8_rank_0 (5, .iconst 1, 1) (List.mem_of_getElem? (i := 3) rfl)
theorem dX8_rank_6 : decode cX8_rank 6 = .ok (.goto 45, 3) := bdX8_rank_0 (6, .goto 45, 3) (List.mem_of_getElem? (i := 4) rfl)
theorem dX8_rank_9 : decode cX8_rank 9 = .ok (.iload_n 0, 1) := bdX8_rank_0 (9, .iload_n 0, 1) (List.mem_of_getElem? (i := 5) rfl)
theorem dX8_rank_10 : decode cX8_rank 10 = .ok (.bipush (-2), 2) := bdX8_rank_0 (10, .bipush (-2), 2) (List.mem_of_getElem? (i := 6) rfl)
theorem dX8_rank_12 : decode cX8_rank 12 = .ok (.if_icmp .ne 7, 3) := bdX8_rank_0 (12, .if_icmp .ne 7, 3) (List.mem_of_getElem? (i := 7) rfl)
theorem dX8_rank_15 : decode cX8_rank 15 = .ok (.iconst 2, 1) := bdX8_rank_0 (15, .iconst 2, 1) (List.mem_of_getElem? (i := 8) rfl)
theorem dX8_rank_16 : decode cX8_rank 16 = .ok (.goto 35, 3) := bdX8_rank_0 (16, .goto 35, 3) (List.mem_of_getElem? (i := 9) rfl)
theorem dX8_rank_19 : decode cX8_rank 19 = .ok (.iload_n 0, 1) := bdX8_rank_0 (19, .iload_n 0, 1) (List.mem_of_getElem? (i := 10) rfl)
theorem dX8_rank_20 : decode cX8_rank 20 = .ok (.bipush (-5), 2) := bdX8_rank_0 (20, .bipush (-5), 2) (List.mem_of_getElem? (i := 11) rfl)
theorem dX8_rank_22 : decode cX8_rank 22 = .ok (.if_icmp .lt 7, 3) := bdX8_rank_0 (22, .if_icmp .lt 7, 3) (List.mem_of_getElem? (i := 12) rfl)
theorem dX8_rank_25 : decode cX8_rank 25 = .ok (.iconst 3, 1) := bdX8_rank_0 (25, .iconst 3, 1) (List.mem_of_getElem? (i := 13) rfl)
theorem dX8_rank_26 : decode cX8_rank 26 = .ok (.goto 25, 3) := bdX8_rank_0 (26, .goto 25, 3) (List.mem_of_getElem? (i := 14) rfl)
theorem dX8_rank_29 : decode cX8_rank 29 = .ok (.iload_n 0, 1) := bdX8_rank_0 (29, .iload_n 0, 1) (List.mem_of_getElem? (i := 15) rfl)
theorem dX8_rank_30 : decode cX8_rank 30 = .ok (.bipush (-7), 2) := bdX8_rank_0 (30, .bipush (-7), 2) (List.mem_of_getElem? (i := 16) rfl)
theorem dX8_rank_32 : decode cX8_rank 32 = .ok (.if_icmp .lt 7, 3) := bdX8_rank_0 (32, .if_icmp .lt 7, 3) (List.mem_of_getElem? (i := 17) rfl)
theorem dX8_rank_35 : decode cX8_rank 35 = .ok (.iconst 4, 1) := bdX8_rank_0 (35, .iconst 4, 1) (List.mem_of_getElem? (i := 18) rfl)
theorem dX8_rank_36 : decode cX8_rank 36 = .ok (.goto 15, 3) := bdX8_rank_0 (36, .goto 15, 3) (List.mem_of_getElem? (i := 19) rfl)
theorem dX8_rank_39 : decode cX8_rank 39 = .ok (.iload_n 0, 1) := bdX8_rank_0 (39, .iload_n 0, 1) (List.mem_of_getElem? (i := 20) rfl)
theorem dX8_rank_40 : decode cX8_rank 40 = .ok (.bipush (-9), 2) := bdX8_rank_0 (40, .bipush (-9), 2) (List.mem_of_getElem? (i := 21) rfl)
theorem dX8_rank_42 : decode cX8_rank 42 = .ok (.if_icmp .lt 7, 3) := bdX8_rank_0 (42, .if_icmp .lt 7, 3) (List.mem_of_getElem? (i := 22) rfl)
theorem dX8_rank_45 : decode cX8_rank 45 = .ok (.iconst 5, 1) := bdX8_rank_0 (45, .iconst 5, 1) (List.mem_of_getElem? (i := 23) rfl)
theorem dX8_rank_46 : decode cX8_rank 46 = .ok (.goto 5, 3) := bdX8_rank_0 (46, .goto 5, 3) (List.mem_of_getElem? (i := 24) rfl)
theorem dX8_rank_49 : decode cX8_rank 49 = .ok (.bipush 6, 2) := bdX8_rank_0 (49, .bipush 6, 2) (List.mem_of_getElem? (i := 25) rfl)
theorem dX8_rank_51 : decode cX8_rank 51 = .ok (.ireturn, 1) := bdX8_rank_0 (51, .ireturn, 1) (List.mem_of_getElem? (i := 26) rfl)
def wpX8_rank (ln : Nat → Nat) (S : HC) (a0 : Int32) (post : Int32 → HC → Prop) : Prop := if a0 = (-1 : Int32) then (post (1 : Int32) S) else (if a0 = (-2 : Int32) then (post (2 : Int32) S) else (if a0 < (-5 : Int32) then (if a0 < (-7 : Int32) then (if a0 < (-9 : Int32) then (post (6 : Int32) S) else (post (5 : Int32) S)) else (post (4 : Int32) S)) else (post (3 : Int32) S)))
abbrev rmX8_rank : Room := { frames := 0, cells := 0, slots := 0, locals := 0 }
set_option maxHeartbeats 4000000 in
set_option maxRecDepth 100000 in
theorem ctX8_rank {l : Launch} {g : GX} {N : Nat} {ln : Nat → Nat} {S : HC} {a0 : Int32} {post : Int32 → HC → Prop} (h : wpX8_rank ln S a0 post) : Met l yX8_rank (Cond.code yX8_rank prog_10_method_61_code 1 (Option.some Jvm.ClassFile.FieldType.int) :: gtbl) rmX8_rank (va_Pc [.int a0] (AtP g N ln S)) (QI g N ln post) 0 0 (gF g) := by
  refine m_of (by decide) (Nat.le_of_ble_eq_true rfl) ?_
  intro p e s m below meth c ls F hr I hl
  have hl : lv_has ls 1 [(0, .int a0)] := hl
  unfold wpX8_rank at h
  refine lv_iload_n F.1 F.2.1 dX8_rank_0 rfl (lv_at hl 0 rfl) ?_
  refine lv_iconst (v := -1) F.1 F.2.1 dX8_rank_1 (by decide) ?_
  refine r_icmp_ne (tgt := 9) F dX8_rank_2 (by decide) h (fun h => ?_) (fun h => ?_)
  · refine lv_iload_n F.1 F.2.1 dX8_rank_9 rfl (lv_at hl 0 rfl) ?_
    refine lv_bipush (v := -2) F.1 F.2.1 dX8_rank_10 (by decide) ?_
    refine r_icmp_ne (tgt := 19) F dX8_rank_12 (by decide) h (fun h => ?_) (fun h => ?_)
    · refine lv_iload_n F.1 F.2.1 dX8_rank_19 rfl (lv_at hl 0 rfl) ?_
      refine lv_bipush (v := -5) F.1 F.2.1 dX8_rank_20 (by decide) ?_
      refine r_icmp_lt (tgt := 29) F dX8_rank_22 (by decide) h (fun h => ?_) (fun h => ?_)
      · refine lv_iload_n F.1 F.2.1 dX8_rank_29 rfl (lv_at hl 0 rfl) ?_
        refine lv_bipush (v := -7) F.1 F.2.1 dX8_rank_30 (by decide) ?_
        refine r_icmp_lt (tgt := 39) F dX8_rank_32 (by decide) h (fun h => ?_) (fun h => ?_)
        · refine lv_iload_n F.1 F.2.1 dX8_rank_39 rfl (lv_at hl 0 rfl) ?_
          refine lv_bipush (v := -9) F.1 F.2.1 dX8_rank_40 (by decide) ?_
          refine r_icmp_lt (tgt := 49) F dX8_rank_42 (by decide) h (fun h => ?_) (fun h => ?_)
          · refine lv_bipush (v := 6) F.1 F.2.1 dX8_rank_49 (by decide) ?_
            exact r_ireturn F I ⟨hr.1, hr.2.1, trivial⟩ h dX8_rank_51
          · refine lv_iconst (v := 5) F.1 F.2.1 dX8_rank_45 (by decide) ?_
            refine lv_goto (tgt := 51) F.1 F.2.1 dX8_rank_46 (by decide) ?_
            exact r_ireturn F I ⟨hr.1, hr.2.1, trivial⟩ h dX8_rank_51
        · refine lv_iconst (v := 4) F.1 F.2.1 dX8_rank_35 (by decide) ?_
          refine lv_goto (tgt := 51) F.1 F.2.1 dX8_rank_36 (by decide) ?_
          exact r_ireturn F I ⟨hr.1, hr.2.1, trivial⟩ h dX8_rank_51
      · refine lv_iconst (v := 3) F.1 F.2.1 dX8_rank_25 (by decide) ?_
        refine lv_goto (tgt := 51) F.1 F.2.1 dX8_rank_26 (by decide) ?_
        exact r_ireturn F I ⟨hr.1, hr.2.1, trivial⟩ h dX8_rank_51
    · refine lv_iconst (v := 2) F.1 F.2.1 dX8_rank_15 (by decide) ?_
      refine lv_goto (tgt := 51) F.1 F.2.1 dX8_rank_16 (by decide) ?_
      exact r_ireturn F I ⟨hr.1, hr.2.1, trivial⟩ h dX8_rank_51
  · refine lv_iconst (v := 1) F.1 F.2.1 dX8_rank_5 (by decide) ?_
    refine lv_goto (tgt := 51) F.1 F.2.1 dX8_rank_6 (by decide) ?_
    exact r_ireturn F I ⟨hr.1, hr.2.1, trivial⟩ h dX8_rank_51
theorem bdX8_settle_0 : ∀ q ∈ ([(0, .aload_n 0, 1), (1, .getfield 221, 3), (4, .ifCond .le 78, 3), (7, .aload_n 0, 1), (8, .getfield 38, 3), (11, .aload_n 0, 1), (12, .getfield 221, 3), (15, .iconst 1, 1), (16, .isub, 1), (17, .iaload, 1), (18, .bipush (-11), 2), (20, .if_icmp .eq 62, 3), (23, .aload_n 0, 1), (24, .getfield 38, 3), (27, .aload_n 0, 1), (28, .getfield 221, 3), (31, .iconst 1, 1), (32, .isub, 1), (33, .iaload, 1), (34, .invokestatic 224, 3), (37, .iload_n 1, 1), (38, .if_icmp .lt 44, 3), (41, .aload_n 0, 1), (42, .dup, 1), (43, .getfield 221, 3), (46, .iconst 1, 1), (47, .isub, 1), (48, .putfield 221, 3), (51, .aload_n 0, 1), (52, .getfield 35, 3), (55, .aload_n 0, 1), (56, .getfield 227, 3), (59, .aload_n 0, 1), (60, .getfield 38, 3), (63, .aload_n 0, 1), (64, .getfield 221, 3), (67, .iaload, 1), (68, .iastore, 1), (69, .aload_n 0, 1), (70, .dup, 1)] : List (Nat × Jvm.ClassFile.Instr × Nat)), decode cX8_settle q.1 = .ok q.2 := chk_ok _ 0 _ rfl (by decide +kernel)
theorem dX8_settle_0 : decode cX8_settle 0 = .ok (.aload_n 0, 1) := bdX8_settle_0 (0, .aload_n 0, 1) (List.mem_of_getElem? (i := 0) rfl)
theorem dX8_settle_1 : decode cX8_settle 1 = .ok (.getfield 221, 3) := bdX8_settle_0 (1, .getfield 221, 3) (List.mem_of_getElem? (i := 1) rfl)
theorem dX8_settle_4 : decode cX8_settle 4 = .ok (.ifCond .le 78, 3) := bdX8_settle_0 (4, .ifCond .le 78, 3) (List.mem_of_getElem? (i := 2) rfl)
theorem dX8_settle_7 : decode cX8_settle 7 = .ok (.aload_n 0, 1) := bdX8_settle_0 (7, .aload_n 0, 1) (List.mem_of_getElem? (i := 3) rfl)
theorem dX8_settle_8 : decode cX8_settle 8 = .ok (.getfield 38, 3) := bdX8_settle_0 (8, .getfield 38, 3) (List.mem_of_getElem? (i := 4) rfl)
theorem dX8_settle_11 : decode cX8_settle 11 = .ok (.aload_n 0, 1) := bdX8_settle_0 (11, .aload_n 0, 1) (List.mem_of_getElem? (i := 5) rfl)
theorem dX8_settle_12 : decode cX8_settle 12 = .ok (.getfield 221, 3) := bdX8_settle_0 (12, .getfield 221, 3) (List.mem_of_getElem? (i := 6) rfl)
theorem dX8_settle_15 : decode cX8_settle 15 = .ok (.iconst 1, 1) := bdX8_settle_0 (15, .iconst 1, 1) (List.mem_of_getElem? (i := 7) rfl)
theorem dX8_settle_16 : decode cX8_settle 16 = .ok (.isub, 1) := bdX8_settle_0 (16, .isub, 1) (List.mem_of_getElem? (i := 8) rfl)
theorem dX8_settle_17 : decode cX8_settle 17 = .ok (.iaload, 1) := bdX8_settle_0 (17, .iaload, 1) (List.mem_of_getElem? (i := 9) rfl)
theorem dX8_settle_18 : decode cX8_settle 18 = .ok (.bipush (-11), 2) := bdX8_settle_0 (18, .bipush (-11), 2) (List.mem_of_getElem? (i := 10) rfl)
theorem dX8_settle_20 : decode cX8_settle 20 = .ok (.if_icmp .eq 62, 3) := bdX8_settle_0 (20, .if_icmp .eq 62, 3) (List.mem_of_getElem? (i := 11) rfl)
theorem dX8_settle_23 : decode cX8_settle 23 = .ok (.aload_n 0, 1) := bdX8_settle_0 (23, .aload_n 0, 1) (List.mem_of_getElem? (i := 12) rfl)
theorem dX8_settle_24 : decode cX8_settle 24 = .ok (.getfield 38, 3) := bdX8_settle_0 (24, .getfield 38, 3) (List.mem_of_getElem? (i := 13) rfl)
theorem dX8_settle_27 : decode cX8_settle 27 = .ok (.aload_n 0, 1) := bdX8_settle_0 (27, .aload_n 0, 1) (List.mem_of_getElem? (i := 14) rfl)
theorem dX8_settle_28 : decode cX8_settle 28 = .ok (.getfield 221, 3) := bdX8_settle_0 (28, .getfield 221, 3) (List.mem_of_getElem? (i := 15) rfl)
theorem dX8_settle_31 : decode cX8_settle 31 = .ok (.iconst 1, 1) := bdX8_settle_0 (31, .iconst 1, 1) (List.mem_of_getElem? (i := 16) rfl)
theorem dX8_settle_32 : decode cX8_settle 32 = .ok (.isub, 1) := bdX8_settle_0 (32, .isub, 1) (List.mem_of_getElem? (i := 17) rfl)
theorem dX8_settle_33 : decode cX8_settle 33 = .ok (.iaload, 1) := bdX8_settle_0 (33, .iaload, 1) (List.mem_of_getElem? (i := 18) rfl)
theorem dX8_settle_34 : decode cX8_settle 34 = .ok (.invokestatic 224, 3) := bdX8_settle_0 (34, .invokestatic 224, 3) (List.mem_of_getElem? (i := 19) rfl)
theorem dX8_settle_37 : decode cX8_settle 37 = .ok (.iload_n 1, 1) := bdX8_settle_0 (37, .iload_n 1, 1) (List.mem_of_getElem? (i := 20) rfl)
theorem dX8_settle_38 : decode cX8_settle 38 = .ok (.if_icmp .lt 44, 3) := bdX8_settle_0 (38, .if_icmp .lt 44, 3) (List.mem_of_getElem? (i := 21) rfl)
theorem dX8_settle_41 : decode cX8_settle 41 = .ok (.aload_n 0, 1) := bdX8_settle_0 (41, .aload_n 0, 1) (List.mem_of_getElem? (i := 22) rfl)
theorem dX8_settle_42 : decode cX8_settle 42 = .ok (.dup, 1) := bdX8_settle_0 (42, .dup, 1) (List.mem_of_getElem? (i := 23) rfl)
theorem dX8_settle_43 : decode cX8_settle 43 = .ok (.getfield 221, 3) := bdX8_settle_0 (43, .getfield 221, 3) (List.mem_of_getElem? (i := 24) rfl)
theorem dX8_settle_46 : decode cX8_settle 46 = .ok (.iconst 1, 1) := bdX8_settle_0 (46, .iconst 1, 1) (List.mem_of_getElem? (i := 25) rfl)
theorem dX8_settle_47 : decode cX8_settle 47 = .ok (.isub, 1) := bdX8_settle_0 (47, .isub, 1) (List.mem_of_getElem? (i := 26) rfl)
theorem dX8_settle_48 : decode cX8_settle 48 = .ok (.putfield 221, 3) := bdX8_settle_0 (48, .putfield 221, 3) (List.mem_of_getElem? (i := 27) rfl)
theorem dX8_settle_51 : decode cX8_settle 51 = .ok (.aload_n 0, 1) := bdX8_settle_0 (51, .aload_n 0, 1) (List.mem_of_getElem? (i := 28) rfl)
theorem dX8_settle_52 : decode cX8_settle 52 = .ok (.getfield 35, 3) := bdX8_settle_0 (52, .getfield 35, 3) (List.mem_of_getElem? (i := 29) rfl)
theorem dX8_settle_55 : decode cX8_settle 55 = .ok (.aload_n 0, 1) := bdX8_settle_0 (55, .aload_n 0, 1) (List.mem_of_getElem? (i := 30) rfl)
theorem dX8_settle_56 : decode cX8_settle 56 = .ok (.getfield 227, 3) := bdX8_settle_0 (56, .getfield 227, 3) (List.mem_of_getElem? (i := 31) rfl)
theorem dX8_settle_59 : decode cX8_settle 59 = .ok (.aload_n 0, 1) := bdX8_settle_0 (59, .aload_n 0, 1) (List.mem_of_getElem? (i := 32) rfl)
theorem dX8_settle_60 : decode cX8_settle 60 = .ok (.getfield 38, 3) := bdX8_settle_0 (60, .getfield 38, 3) (List.mem_of_getElem? (i := 33) rfl)
theorem dX8_settle_63 : decode cX8_settle 63 = .ok (.aload_n 0, 1) := bdX8_settle_0 (63, .aload_n 0, 1) (List.mem_of_getElem? (i := 34) rfl)
theorem dX8_settle_64 : decode cX8_settle 64 = .ok (.getfield 221, 3) := bdX8_settle_0 (64, .getfield 221, 3) (List.mem_of_getElem? (i := 35) rfl)
theorem dX8_settle_67 : decode cX8_settle 67 = .ok (.iaload, 1) := bdX8_settle_0 (67, .iaload, 1) (List.mem_of_getElem? (i := 36) rfl)
theorem dX8_settle_68 : decode cX8_settle 68 = .ok (.iastore, 1) := bdX8_settle_0 (68, .iastore, 1) (List.mem_of_getElem? (i := 37) rfl)
theorem dX8_settle_69 : decode cX8_settle 69 = .ok (.aload_n 0, 1) := bdX8_settle_0 (69, .aload_n 0, 1) (List.mem_of_getElem? (i := 38) rfl)
theorem dX8_settle_70 : decode cX8_settle 70 = .ok (.dup, 1) := bdX8_settle_0 (70, .dup, 1) (List.mem_of_getElem? (i := 39) rfl)
theorem bdX8_settle_71 : ∀ q ∈ ([(71, .getfield 227, 3), (74, .iconst 1, 1), (75, .iadd, 1), (76, .putfield 227, 3), (79, .goto (-79), 3), (82, .return_, 1)] : List (Nat × Jvm.ClassFile.Instr × Nat)), decode cX8_settle q.1 = .ok q.2 := chk_ok _ 71 _ rfl (by decide +kernel)
theorem dX8_settle_71 : decode cX8_settle 71 = .ok (.getfield 227, 3) := bdX8_settle_71 (71, .getfield 227, 3) (List.mem_of_getElem? (i := 0) rfl)
theorem dX8_settle_74 : decode cX8_settle 74 = .ok (.iconst 1, 1) := bdX8_settle_71 (74, .iconst 1, 1) (List.mem_of_getElem? (i := 1) rfl)
theorem dX8_settle_75 : decode cX8_settle 75 = .ok (.iadd, 1) := bdX8_settle_71 (75, .iadd, 1) (List.mem_of_getElem? (i := 2) rfl)
theorem dX8_settle_76 : decode cX8_settle 76 = .ok (.putfield 227, 3) := bdX8_settle_71 (76, .putfield 227, 3) (List.mem_of_getElem? (i := 3) rfl)
theorem dX8_settle_79 : decode cX8_settle 79 = .ok (.goto (-79), 3) := bdX8_settle_71 (79, .goto (-79), 3) (List.mem_of_getElem? (i := 4) rfl)
theorem dX8_settle_82 : decode cX8_settle 82 = .ok (.return_, 1) := bdX8_settle_71 (82, .return_, 1) (List.mem_of_getElem? (i := 5) rfl)
theorem fX8_221 : fldOK RX8 221 8 20 .int false := ⟨_, _, _, tyX8, ⟨rfl, iX8, by decide, rfl, by decide⟩, tw_957, ⟨tyX8_ok, nmX8⟩, by decide +kernel, rfl, rfl⟩
theorem fX8_38 : fldOK RX8 38 8 19 (.array .int) true := ⟨_, _, _, tyX8, ⟨rfl, iX8, by decide, rfl, by decide⟩, tw_956, ⟨tyX8_ok, nmX8⟩, by decide +kernel, rfl, rfl⟩
theorem kX8_224 : mthS RX8 224 yX8_rank prog_10_method_61_code 1 (Option.some Jvm.ClassFile.FieldType.int) 1 := ⟨⟨⟨tw_1305, tw_67, tw_1307⟩, rfl, by decide +kernel⟩, tw_1306⟩
theorem fX8_35 : fldOK RX8 35 8 16 (.array .int) true := ⟨_, _, _, tyX8, ⟨rfl, iX8, by decide, rfl, by decide⟩, tw_953, ⟨tyX8_ok, nmX8⟩, by decide +kernel, rfl, rfl⟩
theorem fX8_227 : fldOK RX8 227 8 17 .int false := ⟨_, _, _, tyX8, ⟨rfl, iX8, by decide, rfl, by decide⟩, tw_954, ⟨tyX8_ok, nmX8⟩, by decide +kernel, rfl, rfl⟩
def LX8_settle_0 (ln : Nat → Nat) (post : HC → Prop) : Nat → HC → Nat → Int32 → Prop
  | 0 => fun _ _ _ => False
  | n0 + 1 => fun S x0 x1 => lt_ (hI S x0 20) fun z1 => if z1 ≤ 0 then (post S) else (dn_ (hR S x0 19) fun b2 => lt_ (hI S x0 20) fun z3 => lt_ (z3 - (1 : Int32)) fun z4 => al_ (ln b2) z4 (hI S b2) fun z5 => if z5 = (-11 : Int32) then (post S) else (dn_ (hR S x0 19) fun b6 => lt_ (hI S x0 20) fun z7 => lt_ (z7 - (1 : Int32)) fun z8 => al_ (ln b6) z8 (hI S b6) fun z9 => wpX8_rank ln S z9 fun z10 S => if z10 < x1 then (post S) else (lt_ (hI S x0 20) fun z11 => lt_ (z11 - (1 : Int32)) fun z12 => lt_ (sI S x0 20 z12) fun S => dn_ (hR S x0 16) fun b13 => lt_ (hI S x0 17) fun z14 => dn_ (hR S x0 19) fun b15 => lt_ (hI S x0 20) fun z16 => al_ (ln b15) z16 (hI S b15) fun z17 => as_ (ln b13) z14 (fun j => sI S b13 j z17) fun S => lt_ (hI S x0 17) fun z18 => lt_ (z18 + (1 : Int32)) fun z19 => lt_ (sI S x0 17 z19) fun S => (LX8_settle_0 ln post n0) S x0 x1)))
def wpX8_settle (ln : Nat → Nat) (S : HC) (a0 : Nat) (a1 : Int32) (post : HC → Prop) : Prop := lt_ (hI S a0 20) fun z20 => if z20 ≤ 0 then (post S) else (dn_ (hR S a0 19) fun b21 => lt_ (hI S a0 20) fun z22 => lt_ (z22 - (1 : Int32)) fun z23 => al_ (ln b21) z23 (hI S b21) fun z24 => if z24 = (-11 : Int32) then (post S) else (dn_ (hR S a0 19) fun b25 => lt_ (hI S a0 20) fun z26 => lt_ (z26 - (1 : Int32)) fun z27 => al_ (ln b25) z27 (hI S b25) fun z28 => wpX8_rank ln S z28 fun z29 S => if z29 < a1 then (post S) else (lt_ (hI S a0 20) fun z30 => lt_ (z30 - (1 : Int32)) fun z31 => lt_ (sI S a0 20 z31) fun S => dn_ (hR S a0 16) fun b32 => lt_ (hI S a0 17) fun z33 => dn_ (hR S a0 19) fun b34 => lt_ (hI S a0 20) fun z35 => al_ (ln b34) z35 (hI S b34) fun z36 => as_ (ln b32) z33 (fun j => sI S b32 j z36) fun S => lt_ (hI S a0 17) fun z37 => lt_ (z37 + (1 : Int32)) fun z38 => lt_ (sI S a0 17 z38) fun S => ∃ n0, LX8_settle_0 ln post n0 S a0 a1)))
abbrev rmX8_settle : Room := { frames := 1, cells := 0, slots := 0, locals := 20 }
set_option maxHeartbeats 4000000 in
set_option maxRecDepth 100000 in
theorem ctX8_settle {l : Launch} {g : GX} {N : Nat} {ln : Nat → Nat} {S : HC} {a0 : Nat} {a1 : Int32} {post : HC → Prop} (hr_a0 : a0 < N) (hk_a0 : kd a0 = 8) (h : wpX8_settle ln S a0 a1 post) : Met l yX8_settle (Cond.code yX8_settle prog_10_method_62_code 2 (Option.none : Option Jvm.ClassFile.FieldType) :: gtbl) rmX8_settle (va_Pc [.ref (gz g + a0), .int a1] (AtP g N ln S)) (QV g N ln post) 0 0 (gF g) := by
  refine m_of (by decide) (Nat.le_of_ble_eq_true rfl) ?_
  intro p e s m below meth c ls F hr I hl
  have hl : lv_has ls 2 [(0, .ref (gz g + a0)), (1, .int a1)] := hl
  unfold wpX8_settle at h
  have hl_0 : ∀ n0 : Nat, ∀ (S : HC) (H : Heap) (locs : List Loc) (ls : Array Slot) (x0 : Nat) (x1 : Int32), x0 < N → kd x0 = 8 → LX8_settle_0 ln post n0 S x0 x1 → Inv g N ln S s H locs → lv_has ls 2 [(0, .ref (gz g + x0)), (1, .int x1)] → W p l e rmX8_settle s m ([.ref (gz g + a0), .int a1] : List Value).toArray below meth c H locs 0 0 (MQ below (QV g N ln post) ([.ref (gz g + a0), .int a1] : List Value).toArray s 0 0 (gF g)) (F0 m 0 ls []) := by
    intro n0
    induction n0 with
    | zero =>
      intro S H locs ls x0 x1 hr_x0 hk_x0 h I hl
      exact h.elim
    | succ n0 ih =>
      have hk0 := ih
      intro S H locs ls x0 x1 hr_x0 hk_x0 h I hl
      rw [LX8_settle_0] at h
      refine lv_aload_n F.1 F.2.1 dX8_settle_0 rfl (lv_at hl 0 rfl) ?_
      refine r_getI F I hr_x0 hk_x0 fX8_221 rfl dX8_settle_1 h (fun z1 h => ?_)
      refine r_if_le (tgt := 82) F dX8_settle_4 (by decide) h (fun h => ?_) (fun h => ?_)
      · exact r_vreturn F I ⟨hr.1, hr.2.1, trivial⟩ h dX8_settle_82
      · refine lv_aload_n F.1 F.2.1 dX8_settle_7 rfl (lv_at hl 0 rfl) ?_
        refine r_getN F I hr_x0 hk_x0 fX8_38 (f := 9) rfl (by decide) dX8_settle_8 h (fun b2 hr_b2 hk_b2 h => ?_)
        refine lv_aload_n F.1 F.2.1 dX8_settle_11 rfl (lv_at hl 0 rfl) ?_
        refine r_getI F I hr_x0 hk_x0 fX8_221 rfl dX8_settle_12 h (fun z3 h => ?_)
        refine lv_iconst (v := 1) F.1 F.2.1 dX8_settle_15 (by decide) ?_
        refine r_isub F dX8_settle_16 h (fun z4 h => ?_)
        refine r_ald F I hr_b2 hk_b2 dX8_settle_17 h (fun z5 h => ?_)
        refine lv_bipush (v := -11) F.1 F.2.1 dX8_settle_18 (by decide) ?_
        refine r_icmp_eq (tgt := 82) F dX8_settle_20 (by decide) h (fun h => ?_) (fun h => ?_)
        · exact r_vreturn F I ⟨hr.1, hr.2.1, trivial⟩ h dX8_settle_82
        · refine lv_aload_n F.1 F.2.1 dX8_settle_23 rfl (lv_at hl 0 rfl) ?_
          refine r_getN F I hr_x0 hk_x0 fX8_38 (f := 9) rfl (by decide) dX8_settle_24 h (fun b6 hr_b6 hk_b6 h => ?_)
          refine lv_aload_n F.1 F.2.1 dX8_settle_27 rfl (lv_at hl 0 rfl) ?_
          refine r_getI F I hr_x0 hk_x0 fX8_221 rfl dX8_settle_28 h (fun z7 h => ?_)
          refine lv_iconst (v := 1) F.1 F.2.1 dX8_settle_31 (by decide) ?_
          refine r_isub F dX8_settle_32 h (fun z8 h => ?_)
          refine r_ald F I hr_b6 hk_b6 dX8_settle_33 h (fun z9 h => ?_)
          refine g_I I (run_S (As := [.int z9]) (rest := []) F I kX8_224 (ctX8_rank h) ⟨rfl, rfl⟩ ⟨Nat.le_of_ble_eq_true rfl, Nat.le_of_ble_eq_true rfl⟩ rfl hl.1 rfl (Nat.le_of_ble_eq_true rfl) ⟨Nat.le_of_ble_eq_true rfl, Nat.le_of_ble_eq_true rfl⟩ dX8_settle_34) (fun z10 S H locs I h => ?_)
          refine lv_iload_n F.1 F.2.1 dX8_settle_37 rfl (lv_at hl 1 rfl) ?_
          refine r_icmp_lt (tgt := 82) F dX8_settle_38 (by decide) h (fun h => ?_) (fun h => ?_)
          · exact r_vreturn F I ⟨hr.1, hr.2.1, trivial⟩ h dX8_settle_82
          · refine lv_aload_n F.1 F.2.1 dX8_settle_41 rfl (lv_at hl 0 rfl) ?_
            refine lv_dup F.1 F.2.1 dX8_settle_42 rfl ?_
            refine r_getI F I hr_x0 hk_x0 fX8_221 rfl dX8_settle_43 h (fun z11 h => ?_)
            refine lv_iconst (v := 1) F.1 F.2.1 dX8_settle_46 (by decide) ?_
            refine r_isub F dX8_settle_47 h (fun z12 h => ?_)
            refine r_putI F I hr_x0 hk_x0 fX8_221 rfl (Or.inl rfl) ⟨rfl, rfl⟩ dX8_settle_48 h (fun S H locs I h => ?_)
            refine lv_aload_n F.1 F.2.1 dX8_settle_51 rfl (lv_at hl 0 rfl) ?_
            refine r_getN F I hr_x0 hk_x0 fX8_35 (f := 9) rfl (by decide) dX8_settle_52 h (fun b13 hr_b13 hk_b13 h => ?_)
            refine lv_aload_n F.1 F.2.1 dX8_settle_55 rfl (lv_at hl 0 rfl) ?_
            refine r_getI F I hr_x0 hk_x0 fX8_227 rfl dX8_settle_56 h (fun z14 h => ?_)
            refine lv_aload_n F.1 F.2.1 dX8_settle_59 rfl (lv_at hl 0 rfl) ?_
            refine r_getN F I hr_x0 hk_x0 fX8_38 (f := 9) rfl (by decide) dX8_settle_60 h (fun b15 hr_b15 hk_b15 h => ?_)
            refine lv_aload_n F.1 F.2.1 dX8_settle_63 rfl (lv_at hl 0 rfl) ?_
            refine r_getI F I hr_x0 hk_x0 fX8_221 rfl dX8_settle_64 h (fun z16 h => ?_)
            refine r_ald F I hr_b15 hk_b15 dX8_settle_67 h (fun z17 h => ?_)
            refine r_ast F I hr_b13 hk_b13 dX8_settle_68 h (fun S H locs I h => ?_)
            refine lv_aload_n F.1 F.2.1 dX8_settle_69 rfl (lv_at hl 0 rfl) ?_
            refine lv_dup F.1 F.2.1 dX8_settle_70 rfl ?_
            refine r_getI F I hr_x0 hk_x0 fX8_227 rfl dX8_settle_71 h (fun z18 h => ?_)
            refine lv_iconst (v := 1) F.1 F.2.1 dX8_settle_74 (by decide) ?_
            refine r_iadd F dX8_settle_75 h (fun z19 h => ?_)
            refine r_putI F I hr_x0 hk_x0 fX8_227 rfl (Or.inl rfl) ⟨rfl, rfl⟩ dX8_settle_76 h (fun S H locs I h => ?_)
            refine lv_goto (tgt := 0) F.1 F.2.1 dX8_settle_79 (by decide) ?_
            exact hk0 S _ _ _ x0 x1 hr_x0 hk_x0 h I (lv_sub hl [0, 1] rfl)
  refine lv_aload_n F.1 F.2.1 dX8_settle_0 rfl (lv_at hl 0 rfl) ?_
  refine r_getI F I hr_a0 hk_a0 fX8_221 rfl dX8_settle_1 h (fun z20 h => ?_)
  refine r_if_le (tgt := 82) F dX8_settle_4 (by decide) h (fun h => ?_) (fun h => ?_)
  · exact r_vreturn F I ⟨hr.1, hr.2.1, trivial⟩ h dX8_settle_82
  · refine lv_aload_n F.1 F.2.1 dX8_settle_7 rfl (lv_at hl 0 rfl) ?_
    refine r_getN F I hr_a0 hk_a0 fX8_38 (f := 9) rfl (by decide) dX8_settle_8 h (fun b21 hr_b21 hk_b21 h => ?_)
    refine lv_aload_n F.1 F.2.1 dX8_settle_11 rfl (lv_at hl 0 rfl) ?_
    refine r_getI F I hr_a0 hk_a0 fX8_221 rfl dX8_settle_12 h (fun z22 h => ?_)
    refine lv_iconst (v := 1) F.1 F.2.1 dX8_settle_15 (by decide) ?_
    refine r_isub F dX8_settle_16 h (fun z23 h => ?_)
    refine r_ald F I hr_b21 hk_b21 dX8_settle_17 h (fun z24 h => ?_)
    refine lv_bipush (v := -11) F.1 F.2.1 dX8_settle_18 (by decide) ?_
    refine r_icmp_eq (tgt := 82) F dX8_settle_20 (by decide) h (fun h => ?_) (fun h => ?_)
    · exact r_vreturn F I ⟨hr.1, hr.2.1, trivial⟩ h dX8_settle_82
    · refine lv_aload_n F.1 F.2.1 dX8_settle_23 rfl (lv_at hl 0 rfl) ?_
      refine r_getN F I hr_a0 hk_a0 fX8_38 (f := 9) rfl (by decide) dX8_settle_24 h (fun b25 hr_b25 hk_b25 h => ?_)
      refine lv_aload_n F.1 F.2.1 dX8_settle_27 rfl (lv_at hl 0 rfl) ?_
      refine r_getI F I hr_a0 hk_a0 fX8_221 rfl dX8_settle_28 h (fun z26 h => ?_)
      refine lv_iconst (v := 1) F.1 F.2.1 dX8_settle_31 (by decide) ?_
      refine r_isub F dX8_settle_32 h (fun z27 h => ?_)
      refine r_ald F I hr_b25 hk_b25 dX8_settle_33 h (fun z28 h => ?_)
      refine g_I I (run_S (As := [.int z28]) (rest := []) F I kX8_224 (ctX8_rank h) ⟨rfl, rfl⟩ ⟨Nat.le_of_ble_eq_true rfl, Nat.le_of_ble_eq_true rfl⟩ rfl hl.1 rfl (Nat.le_of_ble_eq_true rfl) ⟨Nat.le_of_ble_eq_true rfl, Nat.le_of_ble_eq_true rfl⟩ dX8_settle_34) (fun z29 S H locs I h => ?_)
      refine lv_iload_n F.1 F.2.1 dX8_settle_37 rfl (lv_at hl 1 rfl) ?_
      refine r_icmp_lt (tgt := 82) F dX8_settle_38 (by decide) h (fun h => ?_) (fun h => ?_)
      · exact r_vreturn F I ⟨hr.1, hr.2.1, trivial⟩ h dX8_settle_82
      · refine lv_aload_n F.1 F.2.1 dX8_settle_41 rfl (lv_at hl 0 rfl) ?_
        refine lv_dup F.1 F.2.1 dX8_settle_42 rfl ?_
        refine r_getI F I hr_a0 hk_a0 fX8_221 rfl dX8_settle_43 h (fun z30 h => ?_)
        refine lv_iconst (v := 1) F.1 F.2.1 dX8_settle_46 (by decide) ?_
        refine r_isub F dX8_settle_47 h (fun z31 h => ?_)
        refine r_putI F I hr_a0 hk_a0 fX8_221 rfl (Or.inl rfl) ⟨rfl, rfl⟩ dX8_settle_48 h (fun S H locs I h => ?_)
        refine lv_aload_n F.1 F.2.1 dX8_settle_51 rfl (lv_at hl 0 rfl) ?_
        refine r_getN F I hr_a0 hk_a0 fX8_35 (f := 9) rfl (by decide) dX8_settle_52 h (fun b32 hr_b32 hk_b32 h => ?_)
        refine lv_aload_n F.1 F.2.1 dX8_settle_55 rfl (lv_at hl 0 rfl) ?_
        refine r_getI F I hr_a0 hk_a0 fX8_227 rfl dX8_settle_56 h (fun z33 h => ?_)
        refine lv_aload_n F.1 F.2.1 dX8_settle_59 rfl (lv_at hl 0 rfl) ?_
        refine r_getN F I hr_a0 hk_a0 fX8_38 (f := 9) rfl (by decide) dX8_settle_60 h (fun b34 hr_b34 hk_b34 h => ?_)
        refine lv_aload_n F.1 F.2.1 dX8_settle_63 rfl (lv_at hl 0 rfl) ?_
        refine r_getI F I hr_a0 hk_a0 fX8_221 rfl dX8_settle_64 h (fun z35 h => ?_)
        refine r_ald F I hr_b34 hk_b34 dX8_settle_67 h (fun z36 h => ?_)
        refine r_ast F I hr_b32 hk_b32 dX8_settle_68 h (fun S H locs I h => ?_)
        refine lv_aload_n F.1 F.2.1 dX8_settle_69 rfl (lv_at hl 0 rfl) ?_
        refine lv_dup F.1 F.2.1 dX8_settle_70 rfl ?_
        refine r_getI F I hr_a0 hk_a0 fX8_227 rfl dX8_settle_71 h (fun z37 h => ?_)
        refine lv_iconst (v := 1) F.1 F.2.1 dX8_settle_74 (by decide) ?_
        refine r_iadd F dX8_settle_75 h (fun z38 h => ?_)
        refine r_putI F I hr_a0 hk_a0 fX8_227 rfl (Or.inl rfl) ⟨rfl, rfl⟩ dX8_settle_76 h (fun S H locs I h => ?_)
        refine lv_goto (tgt := 0) F.1 F.2.1 dX8_settle_79 (by decide) ?_
        obtain ⟨n0, h⟩ := h
        exact hl_0 n0 S _ _ _ a0 a1 hr_a0 hk_a0 h I (lv_sub hl [0, 1] rfl)
theorem bdX8_signHere_0 : ∀ q ∈ ([(0, .aload_n 0, 1), (1, .getfield 203, 3), (4, .iconst 3, 1), (5, .if_icmp .eq 5, 3), (8, .iconst 0, 1), (9, .ireturn, 1), (10, .aload_n 0, 1), (11, .getfield 209, 3), (96, .iconst (-1), 1), (97, .ireturn, 1), (98, .bipush (-2), 2), (100, .ireturn, 1), (101, .bipush (-3), 2), (103, .ireturn, 1), (104, .bipush (-4), 2), (106, .ireturn, 1), (107, .bipush (-5), 2), (109, .ireturn, 1), (110, .bipush (-6), 2), (112, .ireturn, 1), (113, .bipush (-7), 2), (115, .ireturn, 1), (116, .bipush (-8), 2), (118, .ireturn, 1), (119, .bipush (-9), 2), (121, .ireturn, 1), (122, .iconst 0, 1), (123, .ireturn, 1)] : List (Nat × Jvm.ClassFile.Instr × Nat)), decode cX8_signHere q.1 = .ok q.2 := chk_ok _ 0 _ rfl (by decide +kernel)
theorem dX8_signHere_0 : decode cX8_signHere 0 = .ok (.aload_n 0, 1) := bdX8_signHere_0 (0, .aload_n 0, 1) (List.mem_of_getElem? (i := 0) rfl)
theorem dX8_signHere_1 : decode cX8_signHere 1 = .ok (.getfield 203, 3) := bdX8_signHere_0 (1, .getfield 203, 3) (List.mem_of_getElem? (i := 1) rfl)
theorem dX8_signHere_4 : decode cX8_signHere 4 = .ok (.iconst 3, 1) := bdX8_signHere_0 (4, .iconst 3, 1) (List.mem_of_getElem? (i := 2) rfl)
theorem dX8_signHere_5 : decode cX8_signHere 5 = .ok (.if_icmp .eq 5, 3) := bdX8_signHere_0 (5, .if_icmp .eq 5, 3) (List.mem_of_getElem? (i := 3) rfl)
theorem dX8_signHere_8 : decode cX8_signHere 8 = .ok (.iconst 0, 1) := bdX8_signHere_0 (8, .iconst 0, 1) (List.mem_of_getElem? (i := 4) rfl)
theorem dX8_signHere_9 : decode cX8_signHere 9 = .ok (.ireturn, 1) := bdX8_signHere_0 (9, .ireturn, 1) (List.mem_of_getElem? (i := 5) rfl)
theorem dX8_signHere_10 : decode cX8_signHere 10 = .ok (.aload_n 0, 1) := bdX8_signHere_0 (10, .aload_n 0, 1) (List.mem_of_getElem? (i := 6) rfl)
theorem dX8_signHere_11 : decode cX8_signHere 11 = .ok (.getfield 209, 3) := bdX8_signHere_0 (11, .getfield 209, 3) (List.mem_of_getElem? (i := 7) rfl)
theorem dX8_signHere_96 : decode cX8_signHere 96 = .ok (.iconst (-1), 1) := bdX8_signHere_0 (96, .iconst (-1), 1) (List.mem_of_getElem? (i := 8) rfl)
theorem dX8_signHere_97 : decode cX8_signHere 97 = .ok (.ireturn, 1) := bdX8_signHere_0 (97, .ireturn, 1) (List.mem_of_getElem? (i := 9) rfl)
theorem dX8_signHere_98 : decode cX8_signHere 98 = .ok (.bipush (-2), 2) := bdX8_signHere_0 (98, .bipush (-2), 2) (List.mem_of_getElem? (i := 10) rfl)
theorem dX8_signHere_100 : decode cX8_signHere 100 = .ok (.ireturn, 1) := bdX8_signHere_0 (100, .ireturn, 1) (List.mem_of_getElem? (i := 11) rfl)
theorem dX8_signHere_101 : decode cX8_signHere 101 = .ok (.bipush (-3), 2) := bdX8_signHere_0 (101, .bipush (-3), 2) (List.mem_of_getElem? (i := 12) rfl)
theorem dX8_signHere_103 : decode cX8_signHere 103 = .ok (.ireturn, 1) := bdX8_signHere_0 (103, .ireturn, 1) (List.mem_of_getElem? (i := 13) rfl)
theorem dX8_signHere_104 : decode cX8_signHere 104 = .ok (.bipush (-4), 2) := bdX8_signHere_0 (104, .bipush (-4), 2) (List.mem_of_getElem? (i := 14) rfl)
theorem dX8_signHere_106 : decode cX8_signHere 106 = .ok (.ireturn, 1) := bdX8_signHere_0 (106, .ireturn, 1) (List.mem_of_getElem? (i := 15) rfl)
theorem dX8_signHere_107 : decode cX8_signHere 107 = .ok (.bipush (-5), 2) := bdX8_signHere_0 (107, .bipush (-5), 2) (List.mem_of_getElem? (i := 16) rfl)
theorem dX8_signHere_109 : decode cX8_signHere 109 = .ok (.ireturn, 1) := bdX8_signHere_0 (109, .ireturn, 1) (List.mem_of_getElem? (i := 17) rfl)
theorem dX8_signHere_110 : decode cX8_signHere 110 = .ok (.bipush (-6), 2) := bdX8_signHere_0 (110, .bipush (-6), 2) (List.mem_of_getElem? (i := 18) rfl)
theorem dX8_signHere_112 : decode cX8_signHere 112 = .ok (.ireturn, 1) := bdX8_signHere_0 (112, .ireturn, 1) (List.mem_of_getElem? (i := 19) rfl)
theorem dX8_signHere_113 : decode cX8_signHere 113 = .ok (.bipush (-7), 2) := bdX8_signHere_0 (113, .bipush (-7), 2) (List.mem_of_getElem? (i := 20) rfl)
theorem dX8_signHere_115 : decode cX8_signHere 115 = .ok (.ireturn, 1) := bdX8_signHere_0 (115, .ireturn, 1) (List.mem_of_getElem? (i := 21) rfl)
theorem dX8_signHere_116 : decode cX8_signHere 116 = .ok (.bipush (-8), 2) := bdX8_signHere_0 (116, .bipush (-8), 2) (List.mem_of_getElem? (i := 22) rfl)
theorem dX8_signHere_118 : decode cX8_signHere 118 = .ok (.ireturn, 1) := bdX8_signHere_0 (118, .ireturn, 1) (List.mem_of_getElem? (i := 23) rfl)
theorem dX8_signHere_119 : decode cX8_signHere 119 = .ok (.bipush (-9), 2) := bdX8_signHere_0 (119, .bipush (-9), 2) (List.mem_of_getElem? (i := 24) rfl)
theorem dX8_signHere_121 : decode cX8_signHere 121 = .ok (.ireturn, 1) := bdX8_signHere_0 (121, .ireturn, 1) (List.mem_of_getElem? (i := 25) rfl)
theorem dX8_signHere_122 : decode cX8_signHere 122 = .ok (.iconst 0, 1) := bdX8_signHere_0 (122, .iconst 0, 1) (List.mem_of_getElem? (i := 26) rfl)
theorem dX8_signHere_123 : decode cX8_signHere 123 = .ok (.ireturn, 1) := bdX8_signHere_0 (123, .ireturn, 1) (List.mem_of_getElem? (i := 27) rfl)
theorem dX8_signHere_14 : decode cX8_signHere 14 = .ok (.lookupswitch 108 #[(38, 84), (42, 102), (43, 96), (45, 99), (47, 105), (60, 87), (61, 90), (62, 93), (124, 82)], 82) := by decide +kernel
def wpX8_signHere (ln : Nat → Nat) (S : HC) (a0 : Nat) (post : Int32 → HC → Prop) : Prop := lt_ (hI S a0 10) fun z1 => if z1 = (3 : Int32) then (lt_ (hI S a0 11) fun z2 => if z2 = (38 : Int32) then (post (-2 : Int32) S) else if z2 = (42 : Int32) then (post (-8 : Int32) S) else if z2 = (43 : Int32) then (post (-6 : Int32) S) else if z2 = (45 : Int32) then (post (-7 : Int32) S) else if z2 = (47 : Int32) then (post (-9 : Int32) S) else if z2 = (60 : Int32) then (post (-3 : Int32) S) else if z2 = (61 : Int32) then (post (-4 : Int32) S) else if z2 = (62 : Int32) then (post (-5 : Int32) S) else if z2 = (124 : Int32) then (post (-1 : Int32) S) else post (0 : Int32) S) else (post (0 : Int32) S)
abbrev rmX8_signHere : Room := { frames := 0, cells := 0, slots := 0, locals := 0 }
set_option maxHeartbeats 4000000 in
set_option maxRecDepth 100000 in
theorem ctX8_signHere {l : Launch} {g : GX} {N : Nat} {ln : Nat → Nat} {S : HC} {a0 : Nat} {post : Int32 → HC → Prop} (hr_a0 : a0 < N) (hk_a0 : kd a0 = 8) (h : wpX8_signHere ln S a0 post) : Met l yX8_signHere (Cond.code yX8_signHere prog_10_method_63_code 1 (Option.some Jvm.ClassFile.FieldType.int) :: gtbl) rmX8_signHere (va_Pc [.ref (gz g + a0)] (AtP g N ln S)) (QI g N ln post) 0 0 (gF g) := by
  refine m_of (by decide) (Nat.le_of_ble_eq_true rfl) ?_
  intro p e s m below meth c ls F hr I hl
  have hl : lv_has ls 1 [(0, .ref (gz g + a0))] := hl
  unfold wpX8_signHere at h
  refine lv_aload_n F.1 F.2.1 dX8_signHere_0 rfl (lv_at hl 0 rfl) ?_
  refine r_getI F I hr_a0 hk_a0 fX8_203 rfl dX8_signHere_1 h (fun z1 h => ?_)
  refine lv_iconst (v := 3) F.1 F.2.1 dX8_signHere_4 (by decide) ?_
  refine r_icmp_eq (tgt := 10) F dX8_signHere_5 (by decide) h (fun h => ?_) (fun h => ?_)
  · refine lv_aload_n F.1 F.2.1 dX8_signHere_10 rfl (lv_at hl 0 rfl) ?_
    refine r_getI F I hr_a0 hk_a0 fX8_209 rfl dX8_signHere_11 h (fun z2 h => ?_)
    by_cases c0 : z2 = (38 : Int32)
    · rw [if_pos c0] at h
      refine lv_lookup (off := 84) (tgt := 98) F.1 F.2.1 dX8_signHere_14 (by decide) (by rw [c0]; rfl) (by decide) ?_
      refine lv_bipush (v := -2) F.1 F.2.1 dX8_signHere_98 (by decide) ?_
      exact r_ireturn F I ⟨hr.1, hr.2.1, trivial⟩ h dX8_signHere_100
    · rw [if_neg c0] at h
      by_cases c1 : z2 = (42 : Int32)
      · rw [if_pos c1] at h
        refine lv_lookup (off := 102) (tgt := 116) F.1 F.2.1 dX8_signHere_14 (by decide) (by rw [c1]; rfl) (by decide) ?_
        refine lv_bipush (v := -8) F.1 F.2.1 dX8_signHere_116 (by decide) ?_
        exact r_ireturn F I ⟨hr.1, hr.2.1, trivial⟩ h dX8_signHere_118
      · rw [if_neg c1] at h
        by_cases c2 : z2 = (43 : Int32)
        · rw [if_pos c2] at h
          refine lv_lookup (off := 96) (tgt := 110) F.1 F.2.1 dX8_signHere_14 (by decide) (by rw [c2]; rfl) (by decide) ?_
          refine lv_bipush (v := -6) F.1 F.2.1 dX8_signHere_110 (by decide) ?_
          exact r_ireturn F I ⟨hr.1, hr.2.1, trivial⟩ h dX8_signHere_112
        · rw [if_neg c2] at h
          by_cases c3 : z2 = (45 : Int32)
          · rw [if_pos c3] at h
            refine lv_lookup (off := 99) (tgt := 113) F.1 F.2.1 dX8_signHere_14 (by decide) (by rw [c3]; rfl) (by decide) ?_
            refine lv_bipush (v := -7) F.1 F.2.1 dX8_signHere_113 (by decide) ?_
            exact r_ireturn F I ⟨hr.1, hr.2.1, trivial⟩ h dX8_signHere_115
          · rw [if_neg c3] at h
            by_cases c4 : z2 = (47 : Int32)
            · rw [if_pos c4] at h
              refine lv_lookup (off := 105) (tgt := 119) F.1 F.2.1 dX8_signHere_14 (by decide) (by rw [c4]; rfl) (by decide) ?_
              refine lv_bipush (v := -9) F.1 F.2.1 dX8_signHere_119 (by decide) ?_
              exact r_ireturn F I ⟨hr.1, hr.2.1, trivial⟩ h dX8_signHere_121
            · rw [if_neg c4] at h
              by_cases c5 : z2 = (60 : Int32)
              · rw [if_pos c5] at h
                refine lv_lookup (off := 87) (tgt := 101) F.1 F.2.1 dX8_signHere_14 (by decide) (by rw [c5]; rfl) (by decide) ?_
                refine lv_bipush (v := -3) F.1 F.2.1 dX8_signHere_101 (by decide) ?_
                exact r_ireturn F I ⟨hr.1, hr.2.1, trivial⟩ h dX8_signHere_103
              · rw [if_neg c5] at h
                by_cases c6 : z2 = (61 : Int32)
                · rw [if_pos c6] at h
                  refine lv_lookup (off := 90) (tgt := 104) F.1 F.2.1 dX8_signHere_14 (by decide) (by rw [c6]; rfl) (by decide) ?_
                  refine lv_bipush (v := -4) F.1 F.2.1 dX8_signHere_104 (by decide) ?_
                  exact r_ireturn F I ⟨hr.1, hr.2.1, trivial⟩ h dX8_signHere_106
                · rw [if_neg c6] at h
                  by_cases c7 : z2 = (62 : Int32)
                  · rw [if_pos c7] at h
                    refine lv_lookup (off := 93) (tgt := 107) F.1 F.2.1 dX8_signHere_14 (by decide) (by rw [c7]; rfl) (by decide) ?_
                    refine lv_bipush (v := -5) F.1 F.2.1 dX8_signHere_107 (by decide) ?_
                    exact r_ireturn F I ⟨hr.1, hr.2.1, trivial⟩ h dX8_signHere_109
                  · rw [if_neg c7] at h
                    by_cases c8 : z2 = (124 : Int32)
                    · rw [if_pos c8] at h
                      refine lv_lookup (off := 82) (tgt := 96) F.1 F.2.1 dX8_signHere_14 (by decide) (by rw [c8]; rfl) (by decide) ?_
                      refine lv_iconst (v := -1) F.1 F.2.1 dX8_signHere_96 (by decide) ?_
                      exact r_ireturn F I ⟨hr.1, hr.2.1, trivial⟩ h dX8_signHere_97
                    · rw [if_neg c8] at h
                      refine lv_lookup (off := 108) (tgt := 122) F.1 F.2.1 dX8_signHere_14 (by decide) (by show Op.lookupswitch.offset [(38, 84), (42, 102), (43, 96), (45, 99), (47, 105), (60, 87), (61, 90), (62, 93), (124, 82)] (108) _ = _; rw [lv_osw c0 (by decide), lv_osw c1 (by decide), lv_osw c2 (by decide), lv_osw c3 (by decide), lv_osw c4 (by decide), lv_osw c5 (by decide), lv_osw c6 (by decide), lv_osw c7 (by decide), lv_osw c8 (by decide)]; rfl) (by decide) ?_
                      refine lv_iconst (v := 0) F.1 F.2.1 dX8_signHere_122 (by decide) ?_
                      exact r_ireturn F I ⟨hr.1, hr.2.1, trivial⟩ h dX8_signHere_123
  · refine lv_iconst (v := 0) F.1 F.2.1 dX8_signHere_8 (by decide) ?_
    exact r_ireturn F I ⟨hr.1, hr.2.1, trivial⟩ h dX8_signHere_9
theorem bdX8_takesPart_0 : ∀ q ∈ ([(0, .aload_n 0, 1), (1, .getfield 203, 3), (4, .iconst 1, 1), (5, .if_icmp .ne 31, 3), (8, .aload_n 0, 1), (9, .getfield 194, 3), (12, .aload_n 0, 1), (13, .getfield 197, 3), (16, .isub, 1), (17, .iconst 1, 1), (18, .if_icmp .ne 18, 3), (21, .aload_n 0, 1), (22, .aload_n 0, 1), (23, .getfield 209, 3), (26, .invokevirtual 230, 3), (29, .ifCond .lt 7, 3), (32, .iconst 1, 1), (33, .goto 4, 3), (36, .iconst 0, 1), (37, .istore_n 1, 1), (38, .aload_n 0, 1), (39, .getfield 203, 3), (42, .iconst 2, 1), (43, .if_icmp .eq 9, 3), (46, .iload_n 1, 1), (47, .ifCond .ne 5, 3), (50, .iconst 0, 1), (51, .ireturn, 1), (52, .aload_n 0, 1), (53, .getfield 35, 3), (56, .aload_n 0, 1), (57, .getfield 227, 3), (60, .aload_n 0, 1), (61, .getfield 203, 3), (64, .iconst 2, 1), (65, .if_icmp .ne 10, 3), (68, .aload_n 0, 1), (69, .getfield 209, 3), (72, .goto 15, 3), (75, .sipush 10000, 3)] : List (Nat × Jvm.ClassFile.Instr × Nat)), decode cX8_takesPart q.1 = .ok q.2 := chk_ok _ 0 _ rfl (by decide +kernel)
theorem dX8_takesPart_0 : decode cX8_takesPart 0 = .ok (.aload_n 0, 1) := bdX8_takesPart_0 (0, .aload_n 0, 1) (List.mem_of_getElem? (i := 0) rfl)
theorem dX8_takesPart_1 : decode cX8_takesPart 1 = .ok (.getfield 203, 3) := bdX8_takesPart_0 (1, .getfield 203, 3) (List.mem_of_getElem? (i := 1) rfl)
theorem dX8_takesPart_4 : decode cX8_takesPart 4 = .ok (.iconst 1, 1) := bdX8_takesPart_0 (4, .iconst 1, 1) (List.mem_of_getElem? (i := 2) rfl)
theorem dX8_takesPart_5 : decode cX8_takesPart 5 = .ok (.if_icmp .ne 31, 3) := bdX8_takesPart_0 (5, .if_icmp .ne 31, 3) (List.mem_of_getElem? (i := 3) rfl)
theorem dX8_takesPart_8 : decode cX8_takesPart 8 = .ok (.aload_n 0, 1) := bdX8_takesPart_0 (8, .aload_n 0, 1) (List.mem_of_getElem? (i := 4) rfl)
theorem dX8_takesPart_9 : decode cX8_takesPart 9 = .ok (.getfield 194, 3) := bdX8_takesPart_0 (9, .getfield 194, 3) (List.mem_of_getElem? (i := 5) rfl)
theorem dX8_takesPart_12 : decode cX8_takesPart 12 = .ok (.aload_n 0, 1) := bdX8_takesPart_0 (12, .aload_n 0, 1) (List.mem_of_getElem? (i := 6) rfl)
theorem dX8_takesPart_13 : decode cX8_takesPart 13 = .ok (.getfield 197, 3) := bdX8_takesPart_0 (13, .getfield 197, 3) (List.mem_of_getElem? (i := 7) rfl)
theorem dX8_takesPart_16 : decode cX8_takesPart 16 = .ok (.isub, 1) := bdX8_takesPart_0 (16, .isub, 1) (List.mem_of_getElem? (i := 8) rfl)
theorem dX8_takesPart_17 : decode cX8_takesPart 17 = .ok (.iconst 1, 1) := bdX8_takesPart_0 (17, .iconst 1, 1) (List.mem_of_getElem? (i := 9) rfl)
theorem dX8_takesPart_18 : decode cX8_takesPart 18 = .ok (.if_icmp .ne 18, 3) := bdX8_takesPart_0 (18, .if_icmp .ne 18, 3) (List.mem_of_getElem? (i := 10) rfl)
theorem dX8_takesPart_21 : decode cX8_takesPart 21 = .ok (.aload_n 0, 1) := bdX8_takesPart_0 (21, .aload_n 0, 1) (List.mem_of_getElem? (i := 11) rfl)
theorem dX8_takesPart_22 : decode cX8_takesPart 22 = .ok (.aload_n 0, 1) := bdX8_takesPart_0 (22, .aload_n 0, 1) (List.mem_of_getElem? (i := 12) rfl)
theorem dX8_takesPart_23 : decode cX8_takesPart 23 = .ok (.getfield 209, 3) := bdX8_takesPart_0 (23, .getfield 209, 3) (List.mem_of_getElem? (i := 13) rfl)
theorem dX8_takesPart_26 : decode cX8_takesPart 26 = .ok (.invokevirtual 230, 3) := bdX8_takesPart_0 (26, .invokevirtual 230, 3) (List.mem_of_getElem? (i := 14) rfl)
theorem dX8_takesPart_29 : decode cX8_takesPart 29 = .ok (.ifCond .lt 7, 3) := bdX8_takesPart_0 (29, .ifCond .lt 7, 3) (List.mem_of_getElem? (i := 15) rfl)
theorem dX8_takesPart_32 : decode cX8_takesPart 32 = .ok (.iconst 1, 1) := bdX8_takesPart_0 (32, .iconst 1, 1) (List.mem_of_getElem? (i := 16) rfl)
theorem dX8_takesPart_33 : decode cX8_takesPart 33 = .ok (.goto 4, 3) := bdX8_takesPart_0 (33, .goto 4, 3) (List.mem_of_getElem? (i := 17) rfl)
theorem dX8_takesPart_36 : decode cX8_takesPart 36 = .ok (.iconst 0, 1) := bdX8_takesPart_0 (36, .iconst 0, 1) (List.mem_of_getElem? (i := 18) rfl)
theorem dX8_takesPart_37 : decode cX8_takesPart 37 = .ok (.istore_n 1, 1) := bdX8_takesPart_0 (37, .istore_n 1, 1) (List.mem_of_getElem? (i := 19) rfl)
theorem dX8_takesPart_38 : decode cX8_takesPart 38 = .ok (.aload_n 0, 1) := bdX8_takesPart_0 (38, .aload_n 0, 1) (List.mem_of_getElem? (i := 20) rfl)
theorem dX8_takesPart_39 : decode cX8_takesPart 39 = .ok (.getfield 203, 3) := bdX8_takesPart_0 (39, .getfield 203, 3) (List.mem_of_getElem? (i := 21) rfl)
theorem dX8_takesPart_42 : decode cX8_takesPart 42 = .ok (.iconst 2, 1) := bdX8_takesPart_0 (42, .iconst 2, 1) (List.mem_of_getElem? (i := 22) rfl)
theorem dX8_takesPart_43 : decode cX8_takesPart 43 = .ok (.if_icmp .eq 9, 3) := bdX8_takesPart_0 (43, .if_icmp .eq 9, 3) (List.mem_of_getElem? (i := 23) rfl)
theorem dX8_takesPart_46 : decode cX8_takesPart 46 = .ok (.iload_n 1, 1) := bdX8_takesPart_0 (46, .iload_n 1, 1) (List.mem_of_getElem? (i := 24) rfl)
theorem dX8_takesPart_47 : decode cX8_takesPart 47 = .ok (.ifCond .ne 5, 3) := bdX8_takesPart_0 (47, .ifCond .ne 5, 3) (List.mem_of_getElem? (i := 25) rfl)
theorem dX8_takesPart_50 : decode cX8_takesPart 50 = .ok (.iconst 0, 1) := bdX8_takesPart_0 (50, .iconst 0, 1) (List.mem_of_getElem? (i := 26) rfl)
theorem dX8_takesPart_51 : decode cX8_takesPart 51 = .ok (.ireturn, 1) := bdX8_takesPart_0 (51, .ireturn, 1) (List.mem_of_getElem? (i := 27) rfl)
theorem dX8_takesPart_52 : decode cX8_takesPart 52 = .ok (.aload_n 0, 1) := bdX8_takesPart_0 (52, .aload_n 0, 1) (List.mem_of_getElem? (i := 28) rfl)
theorem dX8_takesPart_53 : decode cX8_takesPart 53 = .ok (.getfield 35, 3) := bdX8_takesPart_0 (53, .getfield 35, 3) (List.mem_of_getElem? (i := 29) rfl)
theorem dX8_takesPart_56 : decode cX8_takesPart 56 = .ok (.aload_n 0, 1) := bdX8_takesPart_0 (56, .aload_n 0, 1) (List.mem_of_getElem? (i := 30) rfl)
theorem dX8_takesPart_57 : decode cX8_takesPart 57 = .ok (.getfield 227, 3) := bdX8_takesPart_0 (57, .getfield 227, 3) (List.mem_of_getElem? (i := 31) rfl)
theorem dX8_takesPart_60 : decode cX8_takesPart 60 = .ok (.aload_n 0, 1) := bdX8_takesPart_0 (60, .aload_n 0, 1) (List.mem_of_getElem? (i := 32) rfl)
theorem dX8_takesPart_61 : decode cX8_takesPart 61 = .ok (.getfield 203, 3) := bdX8_takesPart_0 (61, .getfield 203, 3) (List.mem_of_getElem? (i := 33) rfl)
theorem dX8_takesPart_64 : decode cX8_takesPart 64 = .ok (.iconst 2, 1) := bdX8_takesPart_0 (64, .iconst 2, 1) (List.mem_of_getElem? (i := 34) rfl)
theorem dX8_takesPart_65 : decode cX8_takesPart 65 = .ok (.if_icmp .ne 10, 3) := bdX8_takesPart_0 (65, .if_icmp .ne 10, 3) (List.mem_of_getElem? (i := 35) rfl)
theorem dX8_takesPart_68 : decode cX8_takesPart 68 = .ok (.aload_n 0, 1) := bdX8_takesPart_0 (68, .aload_n 0, 1) (List.mem_of_getElem? (i := 36) rfl)
theorem dX8_takesPart_69 : decode cX8_takesPart 69 = .ok (.getfield 209, 3) := bdX8_takesPart_0 (69, .getfield 209, 3) (List.mem_of_getElem? (i := 37) rfl)
theorem dX8_takesPart_72 : decode cX8_takesPart 72 = .ok (.goto 15, 3) := bdX8_takesPart_0 (72, .goto 15, 3) (List.mem_of_getElem? (i := 38) rfl)
theorem dX8_takesPart_75 : decode cX8_takesPart 75 = .ok (.sipush 10000, 3) := bdX8_takesPart_0 (75, .sipush 10000, 3) (List.mem_of_getElem? (i := 39) rfl)
theorem bdX8_takesPart_78 : ∀ q ∈ ([(78, .aload_n 0, 1), (79, .aload_n 0, 1), (80, .getfield 209, 3), (83, .invokevirtual 230, 3), (86, .iadd, 1), (87, .iastore, 1), (88, .aload_n 0, 1), (89, .dup, 1), (90, .getfield 227, 3), (93, .iconst 1, 1), (94, .iadd, 1), (95, .putfield 227, 3), (98, .aload_n 0, 1), (99, .dup, 1), (100, .getfield 233, 3), (103, .iconst 1, 1), (104, .iadd, 1), (105, .putfield 233, 3), (108, .aload_n 0, 1), (109, .bipush 6, 2), (111, .invokevirtual 236, 3), (114, .aload_n 0, 1), (115, .invokevirtual 218, 3), (118, .iconst 1, 1), (119, .ireturn, 1)] : List (Nat × Jvm.ClassFile.Instr × Nat)), decode cX8_takesPart q.1 = .ok q.2 := chk_ok _ 78 _ rfl (by decide +kernel)
theorem dX8_takesPart_78 : decode cX8_takesPart 78 = .ok (.aload_n 0, 1) := bdX8_takesPart_78 (78, .aload_n 0, 1) (List.mem_of_getElem? (i := 0) rfl)
theorem dX8_takesPart_79 : decode cX8_takesPart 79 = .ok (.aload_n 0, 1) := bdX8_takesPart_78 (79, .aload_n 0, 1) (List.mem_of_getElem? (i := 1) rfl)
theorem dX8_takesPart_80 : decode cX8_takesPart 80 = .ok (.getfield 209, 3) := bdX8_takesPart_78 (80, .getfield 209, 3) (List.mem_of_getElem? (i := 2) rfl)
theorem dX8_takesPart_83 : decode cX8_takesPart 83 = .ok (.invokevirtual 230, 3) := bdX8_takesPart_78 (83, .invokevirtual 230, 3) (List.mem_of_getElem? (i := 3) rfl)
theorem dX8_takesPart_86 : decode cX8_takesPart 86 = .ok (.iadd, 1) := bdX8_takesPart_78 (86, .iadd, 1) (List.mem_of_getElem? (i := 4) rfl)
theorem dX8_takesPart_87 : decode cX8_takesPart 87 = .ok (.iastore, 1) := bdX8_takesPart_78 (87, .iastore, 1) (List.mem_of_getElem? (i := 5) rfl)
theorem dX8_takesPart_88 : decode cX8_takesPart 88 = .ok (.aload_n 0, 1) := bdX8_takesPart_78 (88, .aload_n 0, 1) (List.mem_of_getElem? (i := 6) rfl)
theorem dX8_takesPart_89 : decode cX8_takesPart 89 = .ok (.dup, 1) := bdX8_takesPart_78 (89, .dup, 1) (List.mem_of_getElem? (i := 7) rfl)
theorem dX8_takesPart_90 : decode cX8_takesPart 90 = .ok (.getfield 227, 3) := bdX8_takesPart_78 (90, .getfield 227, 3) (List.mem_of_getElem? (i := 8) rfl)
theorem dX8_takesPart_93 : decode cX8_takesPart 93 = .ok (.iconst 1, 1) := bdX8_takesPart_78 (93, .iconst 1, 1) (List.mem_of_getElem? (i := 9) rfl)
theorem dX8_takesPart_94 : decode cX8_takesPart 94 = .ok (.iadd, 1) := bdX8_takesPart_78 (94, .iadd, 1) (List.mem_of_getElem? (i := 10) rfl)
theorem dX8_takesPart_95 : decode cX8_takesPart 95 = .ok (.putfield 227, 3) := bdX8_takesPart_78 (95, .putfield 227, 3) (List.mem_of_getElem? (i := 11) rfl)
theorem dX8_takesPart_98 : decode cX8_takesPart 98 = .ok (.aload_n 0, 1) := bdX8_takesPart_78 (98, .aload_n 0, 1) (List.mem_of_getElem? (i := 12) rfl)
theorem dX8_takesPart_99 : decode cX8_takesPart 99 = .ok (.dup, 1) := bdX8_takesPart_78 (99, .dup, 1) (List.mem_of_getElem? (i := 13) rfl)
theorem dX8_takesPart_100 : decode cX8_takesPart 100 = .ok (.getfield 233, 3) := bdX8_takesPart_78 (100, .getfield 233, 3) (List.mem_of_getElem? (i := 14) rfl)
theorem dX8_takesPart_103 : decode cX8_takesPart 103 = .ok (.iconst 1, 1) := bdX8_takesPart_78 (103, .iconst 1, 1) (List.mem_of_getElem? (i := 15) rfl)
theorem dX8_takesPart_104 : decode cX8_takesPart 104 = .ok (.iadd, 1) := bdX8_takesPart_78 (104, .iadd, 1) (List.mem_of_getElem? (i := 16) rfl)
theorem dX8_takesPart_105 : decode cX8_takesPart 105 = .ok (.putfield 233, 3) := bdX8_takesPart_78 (105, .putfield 233, 3) (List.mem_of_getElem? (i := 17) rfl)
theorem dX8_takesPart_108 : decode cX8_takesPart 108 = .ok (.aload_n 0, 1) := bdX8_takesPart_78 (108, .aload_n 0, 1) (List.mem_of_getElem? (i := 18) rfl)
theorem dX8_takesPart_109 : decode cX8_takesPart 109 = .ok (.bipush 6, 2) := bdX8_takesPart_78 (109, .bipush 6, 2) (List.mem_of_getElem? (i := 19) rfl)
theorem dX8_takesPart_111 : decode cX8_takesPart 111 = .ok (.invokevirtual 236, 3) := bdX8_takesPart_78 (111, .invokevirtual 236, 3) (List.mem_of_getElem? (i := 20) rfl)
theorem dX8_takesPart_114 : decode cX8_takesPart 114 = .ok (.aload_n 0, 1) := bdX8_takesPart_78 (114, .aload_n 0, 1) (List.mem_of_getElem? (i := 21) rfl)
theorem dX8_takesPart_115 : decode cX8_takesPart 115 = .ok (.invokevirtual 218, 3) := bdX8_takesPart_78 (115, .invokevirtual 218, 3) (List.mem_of_getElem? (i := 22) rfl)
theorem dX8_takesPart_118 : decode cX8_takesPart 118 = .ok (.iconst 1, 1) := bdX8_takesPart_78 (118, .iconst 1, 1) (List.mem_of_getElem? (i := 23) rfl)
theorem dX8_takesPart_119 : decode cX8_takesPart 119 = .ok (.ireturn, 1) := bdX8_takesPart_78 (119, .ireturn, 1) (List.mem_of_getElem? (i := 24) rfl)
theorem fX8_233 : fldOK RX8 233 8 18 .int false := ⟨_, _, _, tyX8, ⟨rfl, iX8, by decide, rfl, by decide⟩, tw_955, ⟨tyX8_ok, nmX8⟩, by decide +kernel, rfl, rfl⟩
theorem kX8_236 : mthV RX8 236 8 yX8_settle prog_10_method_62_code 2 (Option.none : Option Jvm.ClassFile.FieldType) 1 := ⟨⟨⟨tw_1301, tw_67, tw_1304⟩, rfl, by decide +kernel⟩, tw_1303, tw_55, rfl⟩
theorem kX8_230 : mthV RX8 230 8 yX8_nameOf prog_10_method_60_code 2 (Option.some Jvm.ClassFile.FieldType.int) 1 := ⟨⟨⟨tw_1297, tw_67, tw_1300⟩, rfl, by decide +kernel⟩, tw_1299, tw_54, rfl⟩
def BX8_takesPart_87 (ln : Nat → Nat) (post : Int32 → HC → Prop) (S : HC) (x0 : Nat) (t0 : Nat) (t1 : Int32) (t2 : Int32) : Prop := as_ (ln t0) t1 (fun j => sI S t0 j t2) fun S => lt_ (hI S x0 17) fun z1 => lt_ (z1 + (1 : Int32)) fun z2 => lt_ (sI S x0 17 z2) fun S => lt_ (hI S x0 18) fun z3 => lt_ (z3 + (1 : Int32)) fun z4 => lt_ (sI S x0 18 z4) fun S => wpX8_settle ln S x0 (6 : Int32) fun S => wpX8_go ln S x0 fun S => rb_ .boolean (1 : Int32) (post (1 : Int32) S)
def BX8_takesPart_52 (ln : Nat → Nat) (post : Int32 → HC → Prop) (S : HC) (x0 : Nat) : Prop := dn_ (hR S x0 16) fun b5 => lt_ (hI S x0 17) fun z6 => lt_ (hI S x0 10) fun z7 => if z7 = (2 : Int32) then (lt_ (hI S x0 11) fun z11 => BX8_takesPart_87 ln post S x0 b5 z6 z11) else (lt_ (hI S x0 11) fun z8 => wpX8_nameOf ln S x0 z8 fun z9 S => lt_ ((10000 : Int32) + z9) fun z10 => BX8_takesPart_87 ln post S x0 b5 z6 z10)
def BX8_takesPart_37 (ln : Nat → Nat) (post : Int32 → HC → Prop) (S : HC) (x0 : Nat) (t0 : Int32) : Prop := lt_ (hI S x0 10) fun z12 => if z12 = (2 : Int32) then (BX8_takesPart_52 ln post S x0) else (if t0 = 0 then (rb_ .boolean (0 : Int32) (post (0 : Int32) S)) else (BX8_takesPart_52 ln post S x0))
def BX8_takesPart_36 (ln : Nat → Nat) (post : Int32 → HC → Prop) (S : HC) (x0 : Nat) : Prop := BX8_takesPart_37 ln post S x0 (0 : Int32)
def wpX8_takesPart (ln : Nat → Nat) (S : HC) (a0 : Nat) (post : Int32 → HC → Prop) : Prop := lt_ (hI S a0 10) fun z13 => if z13 = (1 : Int32) then (lt_ (hI S a0 8) fun z14 => lt_ (hI S a0 9) fun z15 => lt_ (z14 - z15) fun z16 => if z16 = (1 : Int32) then (lt_ (hI S a0 11) fun z17 => wpX8_nameOf ln S a0 z17 fun z18 S => if z18 < 0 then (BX8_takesPart_36 ln post S a0) else (BX8_takesPart_37 ln post S a0 (1 : Int32))) else (BX8_takesPart_36 ln post S a0)) else (BX8_takesPart_36 ln post S a0)
abbrev rmX8_takesPart : Room := { frames := 2, cells := 0, slots := 0, locals := 42 }
set_option maxHeartbeats 4000000 in
set_option maxRecDepth 100000 in
theorem ctX8_takesPart {l : Launch} {g : GX} {N : Nat} {ln : Nat → Nat} {S : HC} {a0 : Nat} {post : Int32 → HC → Prop} (hr_a0 : a0 < N) (hk_a0 : kd a0 = 8) (h : wpX8_takesPart ln S a0 post) : Met l yX8_takesPart (Cond.code yX8_takesPart prog_10_method_64_code 2 (Option.some Jvm.ClassFile.FieldType.boolean) :: gtbl) rmX8_takesPart (va_Pc [.ref (gz g + a0)] (AtP g N ln S)) (QI g N ln post) 0 0 (gF g) := by
  refine m_of (by decide) (Nat.le_of_ble_eq_true rfl) ?_
  intro p e s m below meth c ls F hr I hl
  have hl : lv_has ls 2 [(0, .ref (gz g + a0))] := hl
  unfold wpX8_takesPart at h
  have hj_87 : ∀ (S : HC) (H : Heap) (locs : List Loc) (ls : Array Slot) (x0 : Nat) (t0 : Nat) (t1 : Int32) (t2 : Int32), x0 < N → kd x0 = 8 → t0 < N → kd t0 = 9 → BX8_takesPart_87 ln post S x0 t0 t1 t2 → Inv g N ln S s H locs → lv_has ls 2 [(0, .ref (gz g + x0))] → W p l e rmX8_takesPart s m ([.ref (gz g + a0)] : List Value).toArray below meth c H locs 0 0 (MQ below (QI g N ln post) ([.ref (gz g + a0)] : List Value).toArray s 0 0 (gF g)) (F0 m 87 ls [.int t2, .int t1, .ref (gz g + t0)]) := by
    intro S H locs ls x0 t0 t1 t2 hr_x0 hk_x0 hr_t0 hk_t0 h I hl
    unfold BX8_takesPart_87 at h
    refine r_ast F I hr_t0 hk_t0 dX8_takesPart_87 h (fun S H locs I h => ?_)
    refine lv_aload_n F.1 F.2.1 dX8_takesPart_88 rfl (lv_at hl 0 rfl) ?_
    refine lv_dup F.1 F.2.1 dX8_takesPart_89 rfl ?_
    refine r_getI F I hr_x0 hk_x0 fX8_227 rfl dX8_takesPart_90 h (fun z1 h => ?_)
    refine lv_iconst (v := 1) F.1 F.2.1 dX8_takesPart_93 (by decide) ?_
    refine r_iadd F dX8_takesPart_94 h (fun z2 h => ?_)
    refine r_putI F I hr_x0 hk_x0 fX8_227 rfl (Or.inl rfl) ⟨rfl, rfl⟩ dX8_takesPart_95 h (fun S H locs I h => ?_)
    refine lv_aload_n F.1 F.2.1 dX8_takesPart_98 rfl (lv_at hl 0 rfl) ?_
    refine lv_dup F.1 F.2.1 dX8_takesPart_99 rfl ?_
    refine r_getI F I hr_x0 hk_x0 fX8_233 rfl dX8_takesPart_100 h (fun z3 h => ?_)
    refine lv_iconst (v := 1) F.1 F.2.1 dX8_takesPart_103 (by decide) ?_
    refine r_iadd F dX8_takesPart_104 h (fun z4 h => ?_)
    refine r_putI F I hr_x0 hk_x0 fX8_233 rfl (Or.inl rfl) ⟨rfl, rfl⟩ dX8_takesPart_105 h (fun S H locs I h => ?_)
    refine lv_aload_n F.1 F.2.1 dX8_takesPart_108 rfl (lv_at hl 0 rfl) ?_
    refine lv_bipush (v := 6) F.1 F.2.1 dX8_takesPart_109 (by decide) ?_
    refine g_V I (run_V (As := [.int (6 : Int32)]) (rest := []) F I hr_x0 hk_x0 (by decide) kX8_236 (ctX8_settle hr_x0 hk_x0 h) ⟨rfl, rfl⟩ ⟨Nat.le_of_ble_eq_true rfl, Nat.le_of_ble_eq_true rfl⟩ rfl hl.1 rfl (Nat.le_of_ble_eq_true rfl) ⟨Nat.le_of_ble_eq_true rfl, Nat.le_of_ble_eq_true rfl⟩ dX8_takesPart_111) (fun S H locs I h => ?_)
    refine lv_aload_n F.1 F.2.1 dX8_takesPart_114 rfl (lv_at hl 0 rfl) ?_
    refine g_V I (run_V (As := []) (rest := []) F I hr_x0 hk_x0 (by decide) kX8_218 (ctX8_go hr_x0 hk_x0 h) ⟨rfl, rfl⟩ ⟨Nat.le_of_ble_eq_true rfl, Nat.le_of_ble_eq_true rfl⟩ rfl hl.1 rfl (Nat.le_of_ble_eq_true rfl) ⟨Nat.le_of_ble_eq_true rfl, Nat.le_of_ble_eq_true rfl⟩ dX8_takesPart_115) (fun S H locs I h => ?_)
    refine lv_iconst (v := 1) F.1 F.2.1 dX8_takesPart_118 (by decide) ?_
    exact r_zreturn F I ⟨hr.1, hr.2.1, trivial⟩ h dX8_takesPart_119
  have hj_52 : ∀ (S : HC) (H : Heap) (locs : List Loc) (ls : Array Slot) (x0 : Nat), x0 < N → kd x0 = 8 → BX8_takesPart_52 ln post S x0 → Inv g N ln S s H locs → lv_has ls 2 [(0, .ref (gz g + x0))] → W p l e rmX8_takesPart s m ([.ref (gz g + a0)] : List Value).toArray below meth c H locs 0 0 (MQ below (QI g N ln post) ([.ref (gz g + a0)] : List Value).toArray s 0 0 (gF g)) (F0 m 52 ls []) := by
    intro S H locs ls x0 hr_x0 hk_x0 h I hl
    unfold BX8_takesPart_52 at h
    refine lv_aload_n F.1 F.2.1 dX8_takesPart_52 rfl (lv_at hl 0 rfl) ?_
    refine r_getN F I hr_x0 hk_x0 fX8_35 (f := 9) rfl (by decide) dX8_takesPart_53 h (fun b5 hr_b5 hk_b5 h => ?_)
    refine lv_aload_n F.1 F.2.1 dX8_takesPart_56 rfl (lv_at hl 0 rfl) ?_
    refine r_getI F I hr_x0 hk_x0 fX8_227 rfl dX8_takesPart_57 h (fun z6 h => ?_)
    refine lv_aload_n F.1 F.2.1 dX8_takesPart_60 rfl (lv_at hl 0 rfl) ?_
    refine r_getI F I hr_x0 hk_x0 fX8_203 rfl dX8_takesPart_61 h (fun z7 h => ?_)
    refine lv_iconst (v := 2) F.1 F.2.1 dX8_takesPart_64 (by decide) ?_
    refine r_icmp_ne (tgt := 75) F dX8_takesPart_65 (by decide) h (fun h => ?_) (fun h => ?_)
    · refine lv_sipush (v := 10000) F.1 F.2.1 dX8_takesPart_75 (by decide) ?_
      refine lv_aload_n F.1 F.2.1 dX8_takesPart_78 rfl (lv_at hl 0 rfl) ?_
      refine lv_aload_n F.1 F.2.1 dX8_takesPart_79 rfl (lv_at hl 0 rfl) ?_
      refine r_getI F I hr_x0 hk_x0 fX8_209 rfl dX8_takesPart_80 h (fun z8 h => ?_)
      refine g_I I (run_V (As := [.int z8]) (rest := [.int (10000 : Int32), .int z6, .ref (gz g + b5)]) F I hr_x0 hk_x0 (by decide) kX8_230 (ctX8_nameOf hr_x0 hk_x0 h) ⟨rfl, rfl⟩ ⟨Nat.le_of_ble_eq_true rfl, Nat.le_of_ble_eq_true rfl⟩ rfl hl.1 rfl (Nat.le_of_ble_eq_true rfl) ⟨Nat.le_of_ble_eq_true rfl, Nat.le_of_ble_eq_true rfl⟩ dX8_takesPart_83) (fun z9 S H locs I h => ?_)
      refine r_iadd F dX8_takesPart_86 h (fun z10 h => ?_)
      exact hj_87 S _ _ _ x0 b5 z6 z10 hr_x0 hk_x0 hr_b5 hk_b5 h I (lv_sub hl [0] rfl)
    · refine lv_aload_n F.1 F.2.1 dX8_takesPart_68 rfl (lv_at hl 0 rfl) ?_
      refine r_getI F I hr_x0 hk_x0 fX8_209 rfl dX8_takesPart_69 h (fun z11 h => ?_)
      refine lv_goto (tgt := 87) F.1 F.2.1 dX8_takesPart_72 (by decide) ?_
      exact hj_87 S _ _ _ x0 b5 z6 z11 hr_x0 hk_x0 hr_b5 hk_b5 h I (lv_sub hl [0] rfl)
  have hj_37 : ∀ (S : HC) (H : Heap) (locs : List Loc) (ls : Array Slot) (x0 : Nat) (t0 : Int32), x0 < N → kd x0 = 8 → BX8_takesPart_37 ln post S x0 t0 → Inv g N ln S s H locs → lv_has ls 2 [(0, .ref (gz g + x0))] → W p l e rmX8_takesPart s m ([.ref (gz g + a0)] : List Value).toArray below meth c H locs 0 0 (MQ below (QI g N ln post) ([.ref (gz g + a0)] : List Value).toArray s 0 0 (gF g)) (F0 m 37 ls [.int t0]) := by
    intro S H locs ls x0 t0 hr_x0 hk_x0 h I hl
    unfold BX8_takesPart_37 at h
    refine lv_istore_n (lv' := [(1, .int t0), (0, .ref (gz g + x0))]) F.1 F.2.1 dX8_takesPart_37 rfl hl (by decide) rfl (fun ls hl => ?_)
    refine lv_aload_n F.1 F.2.1 dX8_takesPart_38 rfl (lv_at hl 1 rfl) ?_
    refine r_getI F I hr_x0 hk_x0 fX8_203 rfl dX8_takesPart_39 h (fun z12 h => ?_)
    refine lv_iconst (v := 2) F.1 F.2.1 dX8_takesPart_42 (by decide) ?_
    refine r_icmp_eq (tgt := 52) F dX8_takesPart_43 (by decide) h (fun h => ?_) (fun h => ?_)
    · exact hj_52 S _ _ _ x0 hr_x0 hk_x0 h I (lv_sub hl [1] rfl)
    · refine lv_iload_n F.1 F.2.1 dX8_takesPart_46 rfl (lv_at hl 0 rfl) ?_
      refine r_if_ne (tgt := 52) F dX8_takesPart_47 (by decide) h (fun h => ?_) (fun h => ?_)
      · exact hj_52 S _ _ _ x0 hr_x0 hk_x0 h I (lv_sub hl [1] rfl)
      · refine lv_iconst (v := 0) F.1 F.2.1 dX8_takesPart_50 (by decide) ?_
        exact r_zreturn F I ⟨hr.1, hr.2.1, trivial⟩ h dX8_takesPart_51
  have hj_36 : ∀ (S : HC) (H : Heap) (locs : List Loc) (ls : Array Slot) (x0 : Nat), x0 < N → kd x0 = 8 → BX8_takesPart_36 ln post S x0 → Inv g N ln S s H locs → lv_has ls 2 [(0, .ref (gz g + x0))] → W p l e rmX8_takesPart s m ([.ref (gz g + a0)] : List Value).toArray below meth c H locs 0 0 (MQ below (QI g N ln post) ([.ref (gz g + a0)] : List Value).toArray s 0 0 (gF g)) (F0 m 36 ls []) := by
    intro S H locs ls x0 hr_x0 hk_x0 h I hl
    unfold BX8_takesPart_36 at h
    refine lv_iconst (v := 0) F.1 F.2.1 dX8_takesPart_36 (by decide) ?_
    exact hj_37 S _ _ _ x0 (0 : Int32) hr_x0 hk_x0 h I (lv_sub hl [0] rfl)
  refine lv_aload_n F.1 F.2.1 dX8_takesPart_0 rfl (lv_at hl 0 rfl) ?_
  refine r_getI F I hr_a0 hk_a0 fX8_203 rfl dX8_takesPart_1 h (fun z13 h => ?_)
  refine lv_iconst (v := 1) F.1 F.2.1 dX8_takesPart_4 (by decide) ?_
  refine r_icmp_ne (tgt := 36) F dX8_takesPart_5 (by decide) h (fun h => ?_) (fun h => ?_)
  · exact hj_36 S _ _ _ a0 hr_a0 hk_a0 h I (lv_sub hl [0] rfl)
  · refine lv_aload_n F.1 F.2.1 dX8_takesPart_8 rfl (lv_at hl 0 rfl) ?_
    refine r_getI F I hr_a0 hk_a0 fX8_194 rfl dX8_takesPart_9 h (fun z14 h => ?_)
    refine lv_aload_n F.1 F.2.1 dX8_takesPart_12 rfl (lv_at hl 0 rfl) ?_
    refine r_getI F I hr_a0 hk_a0 fX8_197 rfl dX8_takesPart_13 h (fun z15 h => ?_)
    refine r_isub F dX8_takesPart_16 h (fun z16 h => ?_)
    refine lv_iconst (v := 1) F.1 F.2.1 dX8_takesPart_17 (by decide) ?_
    refine r_icmp_ne (tgt := 36) F dX8_takesPart_18 (by decide) h (fun h => ?_) (fun h => ?_)
    · exact hj_36 S _ _ _ a0 hr_a0 hk_a0 h I (lv_sub hl [0] rfl)
    · refine lv_aload_n F.1 F.2.1 dX8_takesPart_21 rfl (lv_at hl 0 rfl) ?_
      refine lv_aload_n F.1 F.2.1 dX8_takesPart_22 rfl (lv_at hl 0 rfl) ?_
      refine r_getI F I hr_a0 hk_a0 fX8_209 rfl dX8_takesPart_23 h (fun z17 h => ?_)
      refine g_I I (run_V (As := [.int z17]) (rest := []) F I hr_a0 hk_a0 (by decide) kX8_230 (ctX8_nameOf hr_a0 hk_a0 h) ⟨rfl, rfl⟩ ⟨Nat.le_of_ble_eq_true rfl, Nat.le_of_ble_eq_true rfl⟩ rfl hl.1 rfl (Nat.le_of_ble_eq_true rfl) ⟨Nat.le_of_ble_eq_true rfl, Nat.le_of_ble_eq_true rfl⟩ dX8_takesPart_26) (fun z18 S H locs I h => ?_)
      refine r_if_lt (tgt := 36) F dX8_takesPart_29 (by decide) h (fun h => ?_) (fun h => ?_)
      · exact hj_36 S _ _ _ a0 hr_a0 hk_a0 h I (lv_sub hl [0] rfl)
      · refine lv_iconst (v := 1) F.1 F.2.1 dX8_takesPart_32 (by decide) ?_
        refine lv_goto (tgt := 37) F.1 F.2.1 dX8_takesPart_33 (by decide) ?_
        exact hj_37 S _ _ _ a0 (1 : Int32) hr_a0 hk_a0 h I (lv_sub hl [0] rfl)
theorem bdX8_notsOpen_0 : ∀ q ∈ ([(0, .iconst 0, 1), (1, .istore_n 1, 1), (2, .iconst 0, 1), (3, .istore_n 2, 1), (4, .iload_n 2, 1), (5, .aload_n 0, 1), (6, .getfield 221, 3), (9, .if_icmp .ge 28, 3), (12, .iload_n 1, 1), (13, .aload_n 0, 1), (14, .getfield 38, 3), (17, .iload_n 2, 1), (18, .iaload, 1), (19, .bipush (-10), 2), (21, .if_icmp .ne 7, 3), (24, .iconst 1, 1), (25, .goto 4, 3), (28, .iconst 0, 1), (29, .iadd, 1), (30, .istore_n 1, 1), (31, .iinc 2 1, 3), (34, .goto (-30), 3), (37, .iload_n 1, 1), (38, .ireturn, 1)] : List (Nat × Jvm.ClassFile.Instr × Nat)), decode cX8_notsOpen q.1 = .ok q.2 := chk_ok _ 0 _ rfl (by decide +kernel)
theorem dX8_notsOpen_0 : decode cX8_notsOpen 0 = .ok (.iconst 0, 1) := bdX8_notsOpen_0 (0, .iconst 0, 1) (List.mem_of_getElem? (i := 0) rfl)
theorem dX8_notsOpen_1 : decode cX8_notsOpen 1 = .ok (.istore_n 1, 1) := bdX8_notsOpen_0 (1, .istore_n 1, 1) (List.mem_of_getElem? (i := 1) rfl)
theorem dX8_notsOpen_2 : decode cX8_notsOpen 2 = .ok (.iconst 0, 1) := bdX8_notsOpen_0 (2, .iconst 0, 1) (List.mem_of_getElem? (i := 2) rfl)
theorem dX8_notsOpen_3 : decode cX8_notsOpen 3 = .ok (.istore_n 2, 1) := bdX8_notsOpen_0 (3, .istore_n 2, 1) (List.mem_of_getElem? (i := 3) rfl)
theorem dX8_notsOpen_4 : decode cX8_notsOpen 4 = .ok (.iload_n 2, 1) := bdX8_notsOpen_0 (4, .iload_n 2, 1) (List.mem_of_getElem? (i := 4) rfl)
theorem dX8_notsOpen_5 : decode cX8_notsOpen 5 = .ok (.aload_n 0, 1) := bdX8_notsOpen_0 (5, .aload_n 0, 1) (List.mem_of_getElem? (i := 5) rfl)
theorem dX8_notsOpen_6 : decode cX8_notsOpen 6 = .ok (.getfield 221, 3) := bdX8_notsOpen_0 (6, .getfield 221, 3) (List.mem_of_getElem? (i := 6) rfl)
theorem dX8_notsOpen_9 : decode cX8_notsOpen 9 = .ok (.if_icmp .ge 28, 3) := bdX8_notsOpen_0 (9, .if_icmp .ge 28, 3) (List.mem_of_getElem? (i := 7) rfl)
theorem dX8_notsOpen_12 : decode cX8_notsOpen 12 = .ok (.iload_n 1, 1) := bdX8_notsOpen_0 (12, .iload_n 1, 1) (List.mem_of_getElem? (i := 8) rfl)
theorem dX8_notsOpen_13 : decode cX8_notsOpen 13 = .ok (.aload_n 0, 1) := bdX8_notsOpen_0 (13, .aload_n 0, 1) (List.mem_of_getElem? (i := 9) rfl)
theorem dX8_notsOpen_14 : decode cX8_notsOpen 14 = .ok (.getfield 38, 3) := bdX8_notsOpen_0 (14, .getfield 38, 3) (List.mem_of_getElem? (i := 10) rfl)
theorem dX8_notsOpen_17 : decode cX8_notsOpen 17 = .ok (.iload_n 2, 1) := bdX8_notsOpen_0 (17, .iload_n 2, 1) (List.mem_of_getElem? (i := 11) rfl)
theorem dX8_notsOpen_18 : decode cX8_notsOpen 18 = .ok (.iaload, 1) := bdX8_notsOpen_0 (18, .iaload, 1) (List.mem_of_getElem? (i := 12) rfl)
theorem dX8_notsOpen_19 : decode cX8_notsOpen 19 = .ok (.bipush (-10), 2) := bdX8_notsOpen_0 (19, .bipush (-10), 2) (List.mem_of_getElem? (i := 13) rfl)
theorem dX8_notsOpen_21 : decode cX8_notsOpen 21 = .ok (.if_icmp .ne 7, 3) := bdX8_notsOpen_0 (21, .if_icmp .ne 7, 3) (List.mem_of_getElem? (i := 14) rfl)
theorem dX8_notsOpen_24 : decode cX8_notsOpen 24 = .ok (.iconst 1, 1) := bdX8_notsOpen_0 (24, .iconst 1, 1) (List.mem_of_getElem? (i := 15) rfl)
theorem dX8_notsOpen_25 : decode cX8_notsOpen 25 = .ok (.goto 4, 3) := bdX8_notsOpen_0 (25, .goto 4, 3) (List.mem_of_getElem? (i := 16) rfl)
theorem dX8_notsOpen_28 : decode cX8_notsOpen 28 = .ok (.iconst 0, 1) := bdX8_notsOpen_0 (28, .iconst 0, 1) (List.mem_of_getElem? (i := 17) rfl)
theorem dX8_notsOpen_29 : decode cX8_notsOpen 29 = .ok (.iadd, 1) := bdX8_notsOpen_0 (29, .iadd, 1) (List.mem_of_getElem? (i := 18) rfl)
theorem dX8_notsOpen_30 : decode cX8_notsOpen 30 = .ok (.istore_n 1, 1) := bdX8_notsOpen_0 (30, .istore_n 1, 1) (List.mem_of_getElem? (i := 19) rfl)
theorem dX8_notsOpen_31 : decode cX8_notsOpen 31 = .ok (.iinc 2 1, 3) := bdX8_notsOpen_0 (31, .iinc 2 1, 3) (List.mem_of_getElem? (i := 20) rfl)
theorem dX8_notsOpen_34 : decode cX8_notsOpen 34 = .ok (.goto (-30), 3) := bdX8_notsOpen_0 (34, .goto (-30), 3) (List.mem_of_getElem? (i := 21) rfl)
theorem dX8_notsOpen_37 : decode cX8_notsOpen 37 = .ok (.iload_n 1, 1) := bdX8_notsOpen_0 (37, .iload_n 1, 1) (List.mem_of_getElem? (i := 22) rfl)
theorem dX8_notsOpen_38 : decode cX8_notsOpen 38 = .ok (.ireturn, 1) := bdX8_notsOpen_0 (38, .ireturn, 1) (List.mem_of_getElem? (i := 23) rfl)
def BX8_notsOpen_29 (ln : Nat → Nat) (post : Int32 → HC → Prop) (K4 : HC → Nat → Int32 → Int32 → Prop) (S : HC) (x0 : Nat) (x2 : Int32) (t0 : Int32) (t1 : Int32) : Prop := lt_ (t0 + t1) fun z1 => lt_ (x2 + (1 : Int32)) fun z2 => K4 S x0 z1 z2
def LX8_notsOpen_4 (ln : Nat → Nat) (post : Int32 → HC → Prop) : Nat → HC → Nat → Int32 → Int32 → Prop
  | 0 => fun _ _ _ _ => False
  | n4 + 1 => fun S x0 x1 x2 => lt_ (hI S x0 20) fun z3 => if z3 ≤ x2 then (post x1 S) else (dn_ (hR S x0 19) fun b4 => al_ (ln b4) x2 (hI S b4) fun z5 => if z5 = (-10 : Int32) then (BX8_notsOpen_29 ln post (LX8_notsOpen_4 ln post n4) S x0 x2 x1 (1 : Int32)) else (BX8_notsOpen_29 ln post (LX8_notsOpen_4 ln post n4) S x0 x2 x1 (0 : Int32)))
def wpX8_notsOpen (ln : Nat → Nat) (S : HC) (a0 : Nat) (post : Int32 → HC → Prop) : Prop := ∃ n4, LX8_notsOpen_4 ln post n4 S a0 (0 : Int32) (0 : Int32)
abbrev rmX8_notsOpen : Room := { frames := 0, cells := 0, slots := 0, locals := 0 }
set_option maxHeartbeats 4000000 in
set_option maxRecDepth 100000 in
theorem ctX8_notsOpen {l : Launch} {g : GX} {N : Nat} {ln : Nat → Nat} {S : HC} {a0 : Nat} {post : Int32 → HC → Prop} (hr_a0 : a0 < N) (hk_a0 : kd a0 = 8) (h : wpX8_notsOpen ln S a0 post) : Met l yX8_notsOpen (Cond.code yX8_notsOpen prog_10_method_66_code 3 (Option.some Jvm.ClassFile.FieldType.int) :: gtbl) rmX8_notsOpen (va_Pc [.ref (gz g + a0)] (AtP g N ln S)) (QI g N ln post) 0 0 (gF g) := by
  refine m_of (by decide) (Nat.le_of_ble_eq_true rfl) ?_
  intro p e s m below meth c ls F hr I hl
  have hl : lv_has ls 3 [(0, .ref (gz g + a0))] := hl
  unfold wpX8_notsOpen at h
  have hl_4 : ∀ n4 : Nat, ∀ (S : HC) (H : Heap) (locs : List Loc) (ls : Array Slot) (x0 : Nat) (x1 : Int32) (x2 : Int32), x0 < N → kd x0 = 8 → LX8_notsOpen_4 ln post n4 S x0 x1 x2 → Inv g N ln S s H locs → lv_has ls 3 [(0, .ref (gz g + x0)), (1, .int x1), (2, .int x2)] → W p l e rmX8_notsOpen s m ([.ref (gz g + a0)] : List Value).toArray below meth c H locs 0 0 (MQ below (QI g N ln post) ([.ref (gz g + a0)] : List Value).toArray s 0 0 (gF g)) (F0 m 4 ls []) := by
    intro n4
    induction n4 with
    | zero =>
      intro S H locs ls x0 x1 x2 hr_x0 hk_x0 h I hl
      exact h.elim
    | succ n4 ih =>
      have hk4 := ih
      have hj_29 : ∀ (S : HC) (H : Heap) (locs : List Loc) (ls : Array Slot) (x0 : Nat) (x2 : Int32) (t0 : Int32) (t1 : Int32), x0 < N → kd x0 = 8 → BX8_notsOpen_29 ln post (LX8_notsOpen_4 ln post n4) S x0 x2 t0 t1 → Inv g N ln S s H locs → lv_has ls 3 [(0, .ref (gz g + x0)), (2, .int x2)] → W p l e rmX8_notsOpen s m ([.ref (gz g + a0)] : List Value).toArray below meth c H locs 0 0 (MQ below (QI g N ln post) ([.ref (gz g + a0)] : List Value).toArray s 0 0 (gF g)) (F0 m 29 ls [.int t1, .int t0]) := by
        intro S H locs ls x0 x2 t0 t1 hr_x0 hk_x0 h I hl
        unfold BX8_notsOpen_29 at h
        refine r_iadd F dX8_notsOpen_29 h (fun z1 h => ?_)
        refine lv_istore_n (lv' := [(1, .int z1), (0, .ref (gz g + x0)), (2, .int x2)]) F.1 F.2.1 dX8_notsOpen_30 rfl hl (by decide) rfl (fun ls hl => ?_)
        obtain ⟨z2, e_z2, h⟩ := lt_x h
        refine lv_iinc (v := z2) (lv' := [(2, .int z2), (1, .int z1), (0, .ref (gz g + x0))]) F.1 F.2.1 dX8_notsOpen_31 hl (k := 2) rfl (by rw [e_z2]; rfl) (by decide) rfl (fun ls hl => ?_)
        refine lv_goto (tgt := 4) F.1 F.2.1 dX8_notsOpen_34 (by decide) ?_
        exact hk4 S _ _ _ x0 z1 z2 hr_x0 hk_x0 h I (lv_sub hl [2, 1, 0] rfl)
      intro S H locs ls x0 x1 x2 hr_x0 hk_x0 h I hl
      rw [LX8_notsOpen_4] at h
      refine lv_iload_n F.1 F.2.1 dX8_notsOpen_4 rfl (lv_at hl 2 rfl) ?_
      refine lv_aload_n F.1 F.2.1 dX8_notsOpen_5 rfl (lv_at hl 0 rfl) ?_
      refine r_getI F I hr_x0 hk_x0 fX8_221 rfl dX8_notsOpen_6 h (fun z3 h => ?_)
      refine r_icmp_ge (tgt := 37) F dX8_notsOpen_9 (by decide) h (fun h => ?_) (fun h => ?_)
      · refine lv_iload_n F.1 F.2.1 dX8_notsOpen_37 rfl (lv_at hl 1 rfl) ?_
        exact r_ireturn F I ⟨hr.1, hr.2.1, trivial⟩ h dX8_notsOpen_38
      · refine lv_iload_n F.1 F.2.1 dX8_notsOpen_12 rfl (lv_at hl 1 rfl) ?_
        refine lv_aload_n F.1 F.2.1 dX8_notsOpen_13 rfl (lv_at hl 0 rfl) ?_
        refine r_getN F I hr_x0 hk_x0 fX8_38 (f := 9) rfl (by decide) dX8_notsOpen_14 h (fun b4 hr_b4 hk_b4 h => ?_)
        refine lv_iload_n F.1 F.2.1 dX8_notsOpen_17 rfl (lv_at hl 2 rfl) ?_
        refine r_ald F I hr_b4 hk_b4 dX8_notsOpen_18 h (fun z5 h => ?_)
        refine lv_bipush (v := -10) F.1 F.2.1 dX8_notsOpen_19 (by decide) ?_
        refine r_icmp_ne (tgt := 28) F dX8_notsOpen_21 (by decide) h (fun h => ?_) (fun h => ?_)
        · refine lv_iconst (v := 0) F.1 F.2.1 dX8_notsOpen_28 (by decide) ?_
          exact hj_29 S _ _ _ x0 x2 x1 (0 : Int32) hr_x0 hk_x0 h I (lv_sub hl [0, 2] rfl)
        · refine lv_iconst (v := 1) F.1 F.2.1 dX8_notsOpen_24 (by decide) ?_
          refine lv_goto (tgt := 29) F.1 F.2.1 dX8_notsOpen_25 (by decide) ?_
          exact hj_29 S _ _ _ x0 x2 x1 (1 : Int32) hr_x0 hk_x0 h I (lv_sub hl [0, 2] rfl)
  refine lv_iconst (v := 0) F.1 F.2.1 dX8_notsOpen_0 (by decide) ?_
  refine lv_istore_n (lv' := [(1, .int (0 : Int32)), (0, .ref (gz g + a0))]) F.1 F.2.1 dX8_notsOpen_1 rfl hl (by decide) rfl (fun ls hl => ?_)
  refine lv_iconst (v := 0) F.1 F.2.1 dX8_notsOpen_2 (by decide) ?_
  refine lv_istore_n (lv' := [(2, .int (0 : Int32)), (1, .int (0 : Int32)), (0, .ref (gz g + a0))]) F.1 F.2.1 dX8_notsOpen_3 rfl hl (by decide) rfl (fun ls hl => ?_)
  obtain ⟨n4, h⟩ := h
  exact hl_4 n4 S _ _ _ a0 (0 : Int32) (0 : Int32) hr_a0 hk_a0 h I (lv_sub hl [2, 1, 0] rfl)
theorem bdX8_takesE_0 : ∀ q ∈ ([(0, .iconst 0, 1), (1, .istore_n 1, 1), (2, .iconst 0, 1), (3, .istore_n 2, 1), (4, .iconst 1, 1), (5, .istore_n 3, 1), (6, .aload_n 0, 1), (7, .iconst 0, 1), (8, .putfield 227, 3), (11, .aload_n 0, 1), (12, .iconst 0, 1), (13, .putfield 233, 3), (16, .aload_n 0, 1), (17, .iconst 0, 1), (18, .putfield 221, 3), (21, .aload_n 0, 1), (22, .getfield 41, 3), (25, .iconst 0, 1), (26, .iconst 0, 1), (28, .iload_n 3, 1), (29, .ifCond .ne 10, 3), (32, .aload_n 0, 1), (33, .getfield 203, 3), (36, .ifCond .eq 309, 3), (39, .iload_n 3, 1), (40, .ifCond .eq 140, 3), (43, .aload_n 0, 1), (44, .getfield 203, 3), (47, .iconst 3, 1), (48, .if_icmp .ne 49, 3), (51, .aload_n 0, 1), (52, .getfield 209, 3), (55, .bipush 33, 2), (57, .if_icmp .ne 40, 3), (60, .iload_n 2, 1), (61, .bipush 8, 2), (63, .if_icmp .ge 34, 3), (66, .aload_n 0, 1), (67, .getfield 38, 3), (70, .aload_n 0, 1)] : List (Nat × Jvm.ClassFile.Instr × Nat)), decode cX8_takesE q.1 = .ok q.2 := chk_ok _ 0 _ rfl (by decide +kernel)
theorem dX8_takesE_0 : decode cX8_takesE 0 = .ok (.iconst 0, 1) := bdX8_takesE_0 (0, .iconst 0, 1) (List.mem_of_getElem? (i := 0) rfl)
theorem dX8_takesE_1 : decode cX8_takesE 1 = .ok (.istore_n 1, 1) := bdX8_takesE_0 (1, .istore_n 1, 1) (List.mem_of_getElem? (i := 1) rfl)
theorem dX8_takesE_2 : decode cX8_takesE 2 = .ok (.iconst 0, 1) := bdX8_takesE_0 (2, .iconst 0, 1) (List.mem_of_getElem? (i := 2) rfl)
theorem dX8_takesE_3 : decode cX8_takesE 3 = .ok (.istore_n 2, 1) := bdX8_takesE_0 (3, .istore_n 2, 1) (List.mem_of_getElem? (i := 3) rfl)
theorem dX8_takesE_4 : decode cX8_takesE 4 = .ok (.iconst 1, 1) := bdX8_takesE_0 (4, .iconst 1, 1) (List.mem_of_getElem? (i := 4) rfl)
theorem dX8_takesE_5 : decode cX8_takesE 5 = .ok (.istore_n 3, 1) := bdX8_takesE_0 (5, .istore_n 3, 1) (List.mem_of_getElem? (i := 5) rfl)
theorem dX8_takesE_6 : decode cX8_takesE 6 = .ok (.aload_n 0, 1) := bdX8_takesE_0 (6, .aload_n 0, 1) (List.mem_of_getElem? (i := 6) rfl)
theorem dX8_takesE_7 : decode cX8_takesE 7 = .ok (.iconst 0, 1) := bdX8_takesE_0 (7, .iconst 0, 1) (List.mem_of_getElem? (i := 7) rfl)
theorem dX8_takesE_8 : decode cX8_takesE 8 = .ok (.putfield 227, 3) := bdX8_takesE_0 (8, .putfield 227, 3) (List.mem_of_getElem? (i := 8) rfl)
theorem dX8_takesE_11 : decode cX8_takesE 11 = .ok (.aload_n 0, 1) := bdX8_takesE_0 (11, .aload_n 0, 1) (List.mem_of_getElem? (i := 9) rfl)
theorem dX8_takesE_12 : decode cX8_takesE 12 = .ok (.iconst 0, 1) := bdX8_takesE_0 (12, .iconst 0, 1) (List.mem_of_getElem? (i := 10) rfl)
theorem dX8_takesE_13 : decode cX8_takesE 13 = .ok (.putfield 233, 3) := bdX8_takesE_0 (13, .putfield 233, 3) (List.mem_of_getElem? (i := 11) rfl)
theorem dX8_takesE_16 : decode cX8_takesE 16 = .ok (.aload_n 0, 1) := bdX8_takesE_0 (16, .aload_n 0, 1) (List.mem_of_getElem? (i := 12) rfl)
theorem dX8_takesE_17 : decode cX8_takesE 17 = .ok (.iconst 0, 1) := bdX8_takesE_0 (17, .iconst 0, 1) (List.mem_of_getElem? (i := 13) rfl)
theorem dX8_takesE_18 : decode cX8_takesE 18 = .ok (.putfield 221, 3) := bdX8_takesE_0 (18, .putfield 221, 3) (List.mem_of_getElem? (i := 14) rfl)
theorem dX8_takesE_21 : decode cX8_takesE 21 = .ok (.aload_n 0, 1) := bdX8_takesE_0 (21, .aload_n 0, 1) (List.mem_of_getElem? (i := 15) rfl)
theorem dX8_takesE_22 : decode cX8_takesE 22 = .ok (.getfield 41, 3) := bdX8_takesE_0 (22, .getfield 41, 3) (List.mem_of_getElem? (i := 16) rfl)
theorem dX8_takesE_25 : decode cX8_takesE 25 = .ok (.iconst 0, 1) := bdX8_takesE_0 (25, .iconst 0, 1) (List.mem_of_getElem? (i := 17) rfl)
theorem dX8_takesE_26 : decode cX8_takesE 26 = .ok (.iconst 0, 1) := bdX8_takesE_0 (26, .iconst 0, 1) (List.mem_of_getElem? (i := 18) rfl)
theorem dX8_takesE_28 : decode cX8_takesE 28 = .ok (.iload_n 3, 1) := bdX8_takesE_0 (28, .iload_n 3, 1) (List.mem_of_getElem? (i := 19) rfl)
theorem dX8_takesE_29 : decode cX8_takesE 29 = .ok (.ifCond .ne 10, 3) := bdX8_takesE_0 (29, .ifCond .ne 10, 3) (List.mem_of_getElem? (i := 20) rfl)
theorem dX8_takesE_32 : decode cX8_takesE 32 = .ok (.aload_n 0, 1) := bdX8_takesE_0 (32, .aload_n 0, 1) (List.mem_of_getElem? (i := 21) rfl)
theorem dX8_takesE_33 : decode cX8_takesE 33 = .ok (.getfield 203, 3) := bdX8_takesE_0 (33, .getfield 203, 3) (List.mem_of_getElem? (i := 22) rfl)
theorem dX8_takesE_36 : decode cX8_takesE 36 = .ok (.ifCond .eq 309, 3) := bdX8_takesE_0 (36, .ifCond .eq 309, 3) (List.mem_of_getElem? (i := 23) rfl)
theorem dX8_takesE_39 : decode cX8_takesE 39 = .ok (.iload_n 3, 1) := bdX8_takesE_0 (39, .iload_n 3, 1) (List.mem_of_getElem? (i := 24) rfl)
theorem dX8_takesE_40 : decode cX8_takesE 40 = .ok (.ifCond .eq 140, 3) := bdX8_takesE_0 (40, .ifCond .eq 140, 3) (List.mem_of_getElem? (i := 25) rfl)
theorem dX8_takesE_43 : decode cX8_takesE 43 = .ok (.aload_n 0, 1) := bdX8_takesE_0 (43, .aload_n 0, 1) (List.mem_of_getElem? (i := 26) rfl)
theorem dX8_takesE_44 : decode cX8_takesE 44 = .ok (.getfield 203, 3) := bdX8_takesE_0 (44, .getfield 203, 3) (List.mem_of_getElem? (i := 27) rfl)
theorem dX8_takesE_47 : decode cX8_takesE 47 = .ok (.iconst 3, 1) := bdX8_takesE_0 (47, .iconst 3, 1) (List.mem_of_getElem? (i := 28) rfl)
theorem dX8_takesE_48 : decode cX8_takesE 48 = .ok (.if_icmp .ne 49, 3) := bdX8_takesE_0 (48, .if_icmp .ne 49, 3) (List.mem_of_getElem? (i := 29) rfl)
theorem dX8_takesE_51 : decode cX8_takesE 51 = .ok (.aload_n 0, 1) := bdX8_takesE_0 (51, .aload_n 0, 1) (List.mem_of_getElem? (i := 30) rfl)
theorem dX8_takesE_52 : decode cX8_takesE 52 = .ok (.getfield 209, 3) := bdX8_takesE_0 (52, .getfield 209, 3) (List.mem_of_getElem? (i := 31) rfl)
theorem dX8_takesE_55 : decode cX8_takesE 55 = .ok (.bipush 33, 2) := bdX8_takesE_0 (55, .bipush 33, 2) (List.mem_of_getElem? (i := 32) rfl)
theorem dX8_takesE_57 : decode cX8_takesE 57 = .ok (.if_icmp .ne 40, 3) := bdX8_takesE_0 (57, .if_icmp .ne 40, 3) (List.mem_of_getElem? (i := 33) rfl)
theorem dX8_takesE_60 : decode cX8_takesE 60 = .ok (.iload_n 2, 1) := bdX8_takesE_0 (60, .iload_n 2, 1) (List.mem_of_getElem? (i := 34) rfl)
theorem dX8_takesE_61 : decode cX8_takesE 61 = .ok (.bipush 8, 2) := bdX8_takesE_0 (61, .bipush 8, 2) (List.mem_of_getElem? (i := 35) rfl)
theorem dX8_takesE_63 : decode cX8_takesE 63 = .ok (.if_icmp .ge 34, 3) := bdX8_takesE_0 (63, .if_icmp .ge 34, 3) (List.mem_of_getElem? (i := 36) rfl)
theorem dX8_takesE_66 : decode cX8_takesE 66 = .ok (.aload_n 0, 1) := bdX8_takesE_0 (66, .aload_n 0, 1) (List.mem_of_getElem? (i := 37) rfl)
theorem dX8_takesE_67 : decode cX8_takesE 67 = .ok (.getfield 38, 3) := bdX8_takesE_0 (67, .getfield 38, 3) (List.mem_of_getElem? (i := 38) rfl)
theorem dX8_takesE_70 : decode cX8_takesE 70 = .ok (.aload_n 0, 1) := bdX8_takesE_0 (70, .aload_n 0, 1) (List.mem_of_getElem? (i := 39) rfl)
theorem bdX8_takesE_71 : ∀ q ∈ ([(71, .getfield 221, 3), (74, .bipush (-10), 2), (76, .iastore, 1), (77, .aload_n 0, 1), (78, .dup, 1), (79, .getfield 221, 3), (82, .iconst 1, 1), (83, .iadd, 1), (84, .putfield 221, 3), (87, .iinc 2 1, 3), (90, .aload_n 0, 1), (91, .invokevirtual 218, 3), (94, .goto 78, 3), (97, .aload_n 0, 1), (98, .getfield 203, 3), (101, .iconst 3, 1), (102, .if_icmp .ne 56, 3), (105, .aload_n 0, 1), (106, .getfield 209, 3), (109, .bipush 40, 2), (111, .if_icmp .ne 47, 3), (114, .iload_n 1, 1), (115, .bipush 8, 2), (117, .if_icmp .ge 41, 3), (120, .aload_n 0, 1), (121, .getfield 38, 3), (124, .aload_n 0, 1), (125, .getfield 221, 3), (128, .bipush (-11), 2), (130, .iastore, 1), (131, .aload_n 0, 1), (132, .dup, 1), (133, .getfield 221, 3), (136, .iconst 1, 1), (137, .iadd, 1), (138, .putfield 221, 3), (141, .iinc 1 1, 3), (144, .aload_n 0, 1), (145, .getfield 41, 3), (148, .iload_n 1, 1)] : List (Nat × Jvm.ClassFile.Instr × Nat)), decode cX8_takesE q.1 = .ok q.2 := chk_ok _ 71 _ rfl (by decide +kernel)
theorem dX8_takesE_71 : decode cX8_takesE 71 = .ok (.getfield 221, 3) := bdX8_takesE_71 (71, .getfield 221, 3) (List.mem_of_getElem? (i := 0) rfl)
theorem dX8_takesE_74 : decode cX8_takesE 74 = .ok (.bipush (-10), 2) := bdX8_takesE_71 (74, .bipush (-10), 2) (List.mem_of_getElem? (i := 1) rfl)
theorem dX8_takesE_76 : decode cX8_takesE 76 = .ok (.iastore, 1) := bdX8_takesE_71 (76, .iastore, 1) (List.mem_of_getElem? (i := 2) rfl)
theorem dX8_takesE_77 : decode cX8_takesE 77 = .ok (.aload_n 0, 1) := bdX8_takesE_71 (77, .aload_n 0, 1) (List.mem_of_getElem? (i := 3) rfl)
theorem dX8_takesE_78 : decode cX8_takesE 78 = .ok (.dup, 1) := bdX8_takesE_71 (78, .dup, 1) (List.mem_of_getElem? (i := 4) rfl)
theorem dX8_takesE_79 : decode cX8_takesE 79 = .ok (.getfield 221, 3) := bdX8_takesE_71 (79, .getfield 221, 3) (List.mem_of_getElem? (i := 5) rfl)
theorem dX8_takesE_82 : decode cX8_takesE 82 = .ok (.iconst 1, 1) := bdX8_takesE_71 (82, .iconst 1, 1) (List.mem_of_getElem? (i := 6) rfl)
theorem dX8_takesE_83 : decode cX8_takesE 83 = .ok (.iadd, 1) := bdX8_takesE_71 (83, .iadd, 1) (List.mem_of_getElem? (i := 7) rfl)
theorem dX8_takesE_84 : decode cX8_takesE 84 = .ok (.putfield 221, 3) := bdX8_takesE_71 (84, .putfield 221, 3) (List.mem_of_getElem? (i := 8) rfl)
theorem dX8_takesE_87 : decode cX8_takesE 87 = .ok (.iinc 2 1, 3) := bdX8_takesE_71 (87, .iinc 2 1, 3) (List.mem_of_getElem? (i := 9) rfl)
theorem dX8_takesE_90 : decode cX8_takesE 90 = .ok (.aload_n 0, 1) := bdX8_takesE_71 (90, .aload_n 0, 1) (List.mem_of_getElem? (i := 10) rfl)
theorem dX8_takesE_91 : decode cX8_takesE 91 = .ok (.invokevirtual 218, 3) := bdX8_takesE_71 (91, .invokevirtual 218, 3) (List.mem_of_getElem? (i := 11) rfl)
theorem dX8_takesE_94 : decode cX8_takesE 94 = .ok (.goto 78, 3) := bdX8_takesE_71 (94, .goto 78, 3) (List.mem_of_getElem? (i := 12) rfl)
theorem dX8_takesE_97 : decode cX8_takesE 97 = .ok (.aload_n 0, 1) := bdX8_takesE_71 (97, .aload_n 0, 1) (List.mem_of_getElem? (i := 13) rfl)
theorem dX8_takesE_98 : decode cX8_takesE 98 = .ok (.getfield 203, 3) := bdX8_takesE_71 (98, .getfield 203, 3) (List.mem_of_getElem? (i := 14) rfl)
theorem dX8_takesE_101 : decode cX8_takesE 101 = .ok (.iconst 3, 1) := bdX8_takesE_71 (101, .iconst 3, 1) (List.mem_of_getElem? (i := 15) rfl)
theorem dX8_takesE_102 : decode cX8_takesE 102 = .ok (.if_icmp .ne 56, 3) := bdX8_takesE_71 (102, .if_icmp .ne 56, 3) (List.mem_of_getElem? (i := 16) rfl)
theorem dX8_takesE_105 : decode cX8_takesE 105 = .ok (.aload_n 0, 1) := bdX8_takesE_71 (105, .aload_n 0, 1) (List.mem_of_getElem? (i := 17) rfl)
theorem dX8_takesE_106 : decode cX8_takesE 106 = .ok (.getfield 209, 3) := bdX8_takesE_71 (106, .getfield 209, 3) (List.mem_of_getElem? (i := 18) rfl)
theorem dX8_takesE_109 : decode cX8_takesE 109 = .ok (.bipush 40, 2) := bdX8_takesE_71 (109, .bipush 40, 2) (List.mem_of_getElem? (i := 19) rfl)
theorem dX8_takesE_111 : decode cX8_takesE 111 = .ok (.if_icmp .ne 47, 3) := bdX8_takesE_71 (111, .if_icmp .ne 47, 3) (List.mem_of_getElem? (i := 20) rfl)
theorem dX8_takesE_114 : decode cX8_takesE 114 = .ok (.iload_n 1, 1) := bdX8_takesE_71 (114, .iload_n 1, 1) (List.mem_of_getElem? (i := 21) rfl)
theorem dX8_takesE_115 : decode cX8_takesE 115 = .ok (.bipush 8, 2) := bdX8_takesE_71 (115, .bipush 8, 2) (List.mem_of_getElem? (i := 22) rfl)
theorem dX8_takesE_117 : decode cX8_takesE 117 = .ok (.if_icmp .ge 41, 3) := bdX8_takesE_71 (117, .if_icmp .ge 41, 3) (List.mem_of_getElem? (i := 23) rfl)
theorem dX8_takesE_120 : decode cX8_takesE 120 = .ok (.aload_n 0, 1) := bdX8_takesE_71 (120, .aload_n 0, 1) (List.mem_of_getElem? (i := 24) rfl)
theorem dX8_takesE_121 : decode cX8_takesE 121 = .ok (.getfield 38, 3) := bdX8_takesE_71 (121, .getfield 38, 3) (List.mem_of_getElem? (i := 25) rfl)
theorem dX8_takesE_124 : decode cX8_takesE 124 = .ok (.aload_n 0, 1) := bdX8_takesE_71 (124, .aload_n 0, 1) (List.mem_of_getElem? (i := 26) rfl)
theorem dX8_takesE_125 : decode cX8_takesE 125 = .ok (.getfield 221, 3) := bdX8_takesE_71 (125, .getfield 221, 3) (List.mem_of_getElem? (i := 27) rfl)
theorem dX8_takesE_128 : decode cX8_takesE 128 = .ok (.bipush (-11), 2) := bdX8_takesE_71 (128, .bipush (-11), 2) (List.mem_of_getElem? (i := 28) rfl)
theorem dX8_takesE_130 : decode cX8_takesE 130 = .ok (.iastore, 1) := bdX8_takesE_71 (130, .iastore, 1) (List.mem_of_getElem? (i := 29) rfl)
theorem dX8_takesE_131 : decode cX8_takesE 131 = .ok (.aload_n 0, 1) := bdX8_takesE_71 (131, .aload_n 0, 1) (List.mem_of_getElem? (i := 30) rfl)
theorem dX8_takesE_132 : decode cX8_takesE 132 = .ok (.dup, 1) := bdX8_takesE_71 (132, .dup, 1) (List.mem_of_getElem? (i := 31) rfl)
theorem dX8_takesE_133 : decode cX8_takesE 133 = .ok (.getfield 221, 3) := bdX8_takesE_71 (133, .getfield 221, 3) (List.mem_of_getElem? (i := 32) rfl)
theorem dX8_takesE_136 : decode cX8_takesE 136 = .ok (.iconst 1, 1) := bdX8_takesE_71 (136, .iconst 1, 1) (List.mem_of_getElem? (i := 33) rfl)
theorem dX8_takesE_137 : decode cX8_takesE 137 = .ok (.iadd, 1) := bdX8_takesE_71 (137, .iadd, 1) (List.mem_of_getElem? (i := 34) rfl)
theorem dX8_takesE_138 : decode cX8_takesE 138 = .ok (.putfield 221, 3) := bdX8_takesE_71 (138, .putfield 221, 3) (List.mem_of_getElem? (i := 35) rfl)
theorem dX8_takesE_141 : decode cX8_takesE 141 = .ok (.iinc 1 1, 3) := bdX8_takesE_71 (141, .iinc 1 1, 3) (List.mem_of_getElem? (i := 36) rfl)
theorem dX8_takesE_144 : decode cX8_takesE 144 = .ok (.aload_n 0, 1) := bdX8_takesE_71 (144, .aload_n 0, 1) (List.mem_of_getElem? (i := 37) rfl)
theorem dX8_takesE_145 : decode cX8_takesE 145 = .ok (.getfield 41, 3) := bdX8_takesE_71 (145, .getfield 41, 3) (List.mem_of_getElem? (i := 38) rfl)
theorem dX8_takesE_148 : decode cX8_takesE 148 = .ok (.iload_n 1, 1) := bdX8_takesE_71 (148, .iload_n 1, 1) (List.mem_of_getElem? (i := 39) rfl)
theorem bdX8_takesE_149 : ∀ q ∈ ([(149, .iconst 0, 1), (151, .aload_n 0, 1), (152, .invokevirtual 218, 3), (155, .goto 17, 3), (158, .aload_n 0, 1), (159, .invokevirtual 239, 3), (162, .ifCond .eq 8, 3), (165, .iconst 0, 1), (166, .istore_n 3, 1), (167, .goto 5, 3), (170, .iconst 0, 1), (171, .ireturn, 1), (172, .aload_n 0, 1), (173, .invokevirtual 243, 3), (176, .istore_n 2, 1), (177, .goto (-149), 3), (180, .aload_n 0, 1), (181, .getfield 203, 3), (184, .iconst 3, 1), (185, .if_icmp .ne 52, 3), (188, .aload_n 0, 1), (189, .getfield 209, 3), (192, .bipush 41, 2), (194, .if_icmp .ne 43, 3), (197, .iload_n 1, 1), (198, .ifCond .le 39, 3), (201, .aload_n 0, 1), (202, .iconst 0, 1), (203, .invokevirtual 236, 3), (206, .aload_n 0, 1), (207, .dup, 1), (208, .getfield 221, 3), (211, .iconst 1, 1), (212, .isub, 1), (213, .putfield 221, 3), (216, .iinc 1 (-1), 3), (219, .aload_n 0, 1), (220, .bipush 6, 2), (222, .invokevirtual 236, 3), (225, .aload_n 0, 1)] : List (Nat × Jvm.ClassFile.Instr × Nat)), decode cX8_takesE q.1 = .ok q.2 := chk_ok _ 149 _ rfl (by decide +kernel)
theorem dX8_takesE_149 : decode cX8_takesE 149 = .ok (.iconst 0, 1) := bdX8_takesE_149 (149, .iconst 0, 1) (List.mem_of_getElem? (i := 0) rfl)
theorem dX8_takesE_151 : decode cX8_takesE 151 = .ok (.aload_n 0, 1) := bdX8_takesE_149 (151, .aload_n 0, 1) (List.mem_of_getElem? (i := 1) rfl)
theorem dX8_takesE_152 : decode cX8_takesE 152 = .ok (.invokevirtual 218, 3) := bdX8_takesE_149 (152, .invokevirtual 218, 3) (List.mem_of_getElem? (i := 2) rfl)
theorem dX8_takesE_155 : decode cX8_takesE 155 = .ok (.goto 17, 3) := bdX8_takesE_149 (155, .goto 17, 3) (List.mem_of_getElem? (i := 3) rfl)
theorem dX8_takesE_158 : decode cX8_takesE 158 = .ok (.aload_n 0, 1) := bdX8_takesE_149 (158, .aload_n 0, 1) (List.mem_of_getElem? (i := 4) rfl)
theorem dX8_takesE_159 : decode cX8_takesE 159 = .ok (.invokevirtual 239, 3) := bdX8_takesE_149 (159, .invokevirtual 239, 3) (List.mem_of_getElem? (i := 5) rfl)
theorem dX8_takesE_162 : decode cX8_takesE 162 = .ok (.ifCond .eq 8, 3) := bdX8_takesE_149 (162, .ifCond .eq 8, 3) (List.mem_of_getElem? (i := 6) rfl)
theorem dX8_takesE_165 : decode cX8_takesE 165 = .ok (.iconst 0, 1) := bdX8_takesE_149 (165, .iconst 0, 1) (List.mem_of_getElem? (i := 7) rfl)
theorem dX8_takesE_166 : decode cX8_takesE 166 = .ok (.istore_n 3, 1) := bdX8_takesE_149 (166, .istore_n 3, 1) (List.mem_of_getElem? (i := 8) rfl)
theorem dX8_takesE_167 : decode cX8_takesE 167 = .ok (.goto 5, 3) := bdX8_takesE_149 (167, .goto 5, 3) (List.mem_of_getElem? (i := 9) rfl)
theorem dX8_takesE_170 : decode cX8_takesE 170 = .ok (.iconst 0, 1) := bdX8_takesE_149 (170, .iconst 0, 1) (List.mem_of_getElem? (i := 10) rfl)
theorem dX8_takesE_171 : decode cX8_takesE 171 = .ok (.ireturn, 1) := bdX8_takesE_149 (171, .ireturn, 1) (List.mem_of_getElem? (i := 11) rfl)
theorem dX8_takesE_172 : decode cX8_takesE 172 = .ok (.aload_n 0, 1) := bdX8_takesE_149 (172, .aload_n 0, 1) (List.mem_of_getElem? (i := 12) rfl)
theorem dX8_takesE_173 : decode cX8_takesE 173 = .ok (.invokevirtual 243, 3) := bdX8_takesE_149 (173, .invokevirtual 243, 3) (List.mem_of_getElem? (i := 13) rfl)
theorem dX8_takesE_176 : decode cX8_takesE 176 = .ok (.istore_n 2, 1) := bdX8_takesE_149 (176, .istore_n 2, 1) (List.mem_of_getElem? (i := 14) rfl)
theorem dX8_takesE_177 : decode cX8_takesE 177 = .ok (.goto (-149), 3) := bdX8_takesE_149 (177, .goto (-149), 3) (List.mem_of_getElem? (i := 15) rfl)
theorem dX8_takesE_180 : decode cX8_takesE 180 = .ok (.aload_n 0, 1) := bdX8_takesE_149 (180, .aload_n 0, 1) (List.mem_of_getElem? (i := 16) rfl)
theorem dX8_takesE_181 : decode cX8_takesE 181 = .ok (.getfield 203, 3) := bdX8_takesE_149 (181, .getfield 203, 3) (List.mem_of_getElem? (i := 17) rfl)
theorem dX8_takesE_184 : decode cX8_takesE 184 = .ok (.iconst 3, 1) := bdX8_takesE_149 (184, .iconst 3, 1) (List.mem_of_getElem? (i := 18) rfl)
theorem dX8_takesE_185 : decode cX8_takesE 185 = .ok (.if_icmp .ne 52, 3) := bdX8_takesE_149 (185, .if_icmp .ne 52, 3) (List.mem_of_getElem? (i := 19) rfl)
theorem dX8_takesE_188 : decode cX8_takesE 188 = .ok (.aload_n 0, 1) := bdX8_takesE_149 (188, .aload_n 0, 1) (List.mem_of_getElem? (i := 20) rfl)
theorem dX8_takesE_189 : decode cX8_takesE 189 = .ok (.getfield 209, 3) := bdX8_takesE_149 (189, .getfield 209, 3) (List.mem_of_getElem? (i := 21) rfl)
theorem dX8_takesE_192 : decode cX8_takesE 192 = .ok (.bipush 41, 2) := bdX8_takesE_149 (192, .bipush 41, 2) (List.mem_of_getElem? (i := 22) rfl)
theorem dX8_takesE_194 : decode cX8_takesE 194 = .ok (.if_icmp .ne 43, 3) := bdX8_takesE_149 (194, .if_icmp .ne 43, 3) (List.mem_of_getElem? (i := 23) rfl)
theorem dX8_takesE_197 : decode cX8_takesE 197 = .ok (.iload_n 1, 1) := bdX8_takesE_149 (197, .iload_n 1, 1) (List.mem_of_getElem? (i := 24) rfl)
theorem dX8_takesE_198 : decode cX8_takesE 198 = .ok (.ifCond .le 39, 3) := bdX8_takesE_149 (198, .ifCond .le 39, 3) (List.mem_of_getElem? (i := 25) rfl)
theorem dX8_takesE_201 : decode cX8_takesE 201 = .ok (.aload_n 0, 1) := bdX8_takesE_149 (201, .aload_n 0, 1) (List.mem_of_getElem? (i := 26) rfl)
theorem dX8_takesE_202 : decode cX8_takesE 202 = .ok (.iconst 0, 1) := bdX8_takesE_149 (202, .iconst 0, 1) (List.mem_of_getElem? (i := 27) rfl)
theorem dX8_takesE_203 : decode cX8_takesE 203 = .ok (.invokevirtual 236, 3) := bdX8_takesE_149 (203, .invokevirtual 236, 3) (List.mem_of_getElem? (i := 28) rfl)
theorem dX8_takesE_206 : decode cX8_takesE 206 = .ok (.aload_n 0, 1) := bdX8_takesE_149 (206, .aload_n 0, 1) (List.mem_of_getElem? (i := 29) rfl)
theorem dX8_takesE_207 : decode cX8_takesE 207 = .ok (.dup, 1) := bdX8_takesE_149 (207, .dup, 1) (List.mem_of_getElem? (i := 30) rfl)
theorem dX8_takesE_208 : decode cX8_takesE 208 = .ok (.getfield 221, 3) := bdX8_takesE_149 (208, .getfield 221, 3) (List.mem_of_getElem? (i := 31) rfl)
theorem dX8_takesE_211 : decode cX8_takesE 211 = .ok (.iconst 1, 1) := bdX8_takesE_149 (211, .iconst 1, 1) (List.mem_of_getElem? (i := 32) rfl)
theorem dX8_takesE_212 : decode cX8_takesE 212 = .ok (.isub, 1) := bdX8_takesE_149 (212, .isub, 1) (List.mem_of_getElem? (i := 33) rfl)
theorem dX8_takesE_213 : decode cX8_takesE 213 = .ok (.putfield 221, 3) := bdX8_takesE_149 (213, .putfield 221, 3) (List.mem_of_getElem? (i := 34) rfl)
theorem dX8_takesE_216 : decode cX8_takesE 216 = .ok (.iinc 1 (-1), 3) := bdX8_takesE_149 (216, .iinc 1 (-1), 3) (List.mem_of_getElem? (i := 35) rfl)
theorem dX8_takesE_219 : decode cX8_takesE 219 = .ok (.aload_n 0, 1) := bdX8_takesE_149 (219, .aload_n 0, 1) (List.mem_of_getElem? (i := 36) rfl)
theorem dX8_takesE_220 : decode cX8_takesE 220 = .ok (.bipush 6, 2) := bdX8_takesE_149 (220, .bipush 6, 2) (List.mem_of_getElem? (i := 37) rfl)
theorem dX8_takesE_222 : decode cX8_takesE 222 = .ok (.invokevirtual 236, 3) := bdX8_takesE_149 (222, .invokevirtual 236, 3) (List.mem_of_getElem? (i := 38) rfl)
theorem dX8_takesE_225 : decode cX8_takesE 225 = .ok (.aload_n 0, 1) := bdX8_takesE_149 (225, .aload_n 0, 1) (List.mem_of_getElem? (i := 39) rfl)
theorem bdX8_takesE_226 : ∀ q ∈ ([(226, .invokevirtual 243, 3), (229, .istore_n 2, 1), (230, .aload_n 0, 1), (231, .invokevirtual 218, 3), (234, .goto (-206), 3), (237, .aload_n 0, 1), (238, .invokevirtual 246, 3), (241, .istore 4, 2), (243, .iload 4, 2), (245, .ifCond .eq 21, 3), (248, .iload 4, 2), (250, .invokestatic 224, 3), (253, .iconst 3, 1), (254, .if_icmp .ne 14, 3), (257, .aload_n 0, 1), (258, .getfield 41, 3), (261, .iload_n 1, 1), (263, .ifCond .eq 5, 3), (266, .iconst 0, 1), (267, .ireturn, 1), (268, .aload_n 0, 1), (269, .getfield 41, 3), (272, .iload_n 1, 1), (273, .iload 4, 2), (275, .invokestatic 224, 3), (278, .iconst 3, 1), (279, .if_icmp .eq 21, 3), (282, .iload 4, 2), (284, .invokestatic 224, 3), (287, .iconst 3, 1), (288, .if_icmp .le 16, 3), (291, .aload_n 0, 1), (292, .getfield 41, 3), (295, .iload_n 1, 1), (297, .ifCond .eq 7, 3), (300, .iconst 1, 1), (301, .goto 4, 3), (304, .iconst 0, 1), (306, .aload_n 0, 1), (307, .iload 4, 2)] : List (Nat × Jvm.ClassFile.Instr × Nat)), decode cX8_takesE q.1 = .ok q.2 := chk_ok _ 226 _ rfl (by decide +kernel)
theorem dX8_takesE_226 : decode cX8_takesE 226 = .ok (.invokevirtual 243, 3) := bdX8_takesE_226 (226, .invokevirtual 243, 3) (List.mem_of_getElem? (i := 0) rfl)
theorem dX8_takesE_229 : decode cX8_takesE 229 = .ok (.istore_n 2, 1) := bdX8_takesE_226 (229, .istore_n 2, 1) (List.mem_of_getElem? (i := 1) rfl)
theorem dX8_takesE_230 : decode cX8_takesE 230 = .ok (.aload_n 0, 1) := bdX8_takesE_226 (230, .aload_n 0, 1) (List.mem_of_getElem? (i := 2) rfl)
theorem dX8_takesE_231 : decode cX8_takesE 231 = .ok (.invokevirtual 218, 3) := bdX8_takesE_226 (231, .invokevirtual 218, 3) (List.mem_of_getElem? (i := 3) rfl)
theorem dX8_takesE_234 : decode cX8_takesE 234 = .ok (.goto (-206), 3) := bdX8_takesE_226 (234, .goto (-206), 3) (List.mem_of_getElem? (i := 4) rfl)
theorem dX8_takesE_237 : decode cX8_takesE 237 = .ok (.aload_n 0, 1) := bdX8_takesE_226 (237, .aload_n 0, 1) (List.mem_of_getElem? (i := 5) rfl)
theorem dX8_takesE_238 : decode cX8_takesE 238 = .ok (.invokevirtual 246, 3) := bdX8_takesE_226 (238, .invokevirtual 246, 3) (List.mem_of_getElem? (i := 6) rfl)
theorem dX8_takesE_241 : decode cX8_takesE 241 = .ok (.istore 4, 2) := bdX8_takesE_226 (241, .istore 4, 2) (List.mem_of_getElem? (i := 7) rfl)
theorem dX8_takesE_243 : decode cX8_takesE 243 = .ok (.iload 4, 2) := bdX8_takesE_226 (243, .iload 4, 2) (List.mem_of_getElem? (i := 8) rfl)
theorem dX8_takesE_245 : decode cX8_takesE 245 = .ok (.ifCond .eq 21, 3) := bdX8_takesE_226 (245, .ifCond .eq 21, 3) (List.mem_of_getElem? (i := 9) rfl)
theorem dX8_takesE_248 : decode cX8_takesE 248 = .ok (.iload 4, 2) := bdX8_takesE_226 (248, .iload 4, 2) (List.mem_of_getElem? (i := 10) rfl)
theorem dX8_takesE_250 : decode cX8_takesE 250 = .ok (.invokestatic 224, 3) := bdX8_takesE_226 (250, .invokestatic 224, 3) (List.mem_of_getElem? (i := 11) rfl)
theorem dX8_takesE_253 : decode cX8_takesE 253 = .ok (.iconst 3, 1) := bdX8_takesE_226 (253, .iconst 3, 1) (List.mem_of_getElem? (i := 12) rfl)
theorem dX8_takesE_254 : decode cX8_takesE 254 = .ok (.if_icmp .ne 14, 3) := bdX8_takesE_226 (254, .if_icmp .ne 14, 3) (List.mem_of_getElem? (i := 13) rfl)
theorem dX8_takesE_257 : decode cX8_takesE 257 = .ok (.aload_n 0, 1) := bdX8_takesE_226 (257, .aload_n 0, 1) (List.mem_of_getElem? (i := 14) rfl)
theorem dX8_takesE_258 : decode cX8_takesE 258 = .ok (.getfield 41, 3) := bdX8_takesE_226 (258, .getfield 41, 3) (List.mem_of_getElem? (i := 15) rfl)
theorem dX8_takesE_261 : decode cX8_takesE 261 = .ok (.iload_n 1, 1) := bdX8_takesE_226 (261, .iload_n 1, 1) (List.mem_of_getElem? (i := 16) rfl)
theorem dX8_takesE_263 : decode cX8_takesE 263 = .ok (.ifCond .eq 5, 3) := bdX8_takesE_226 (263, .ifCond .eq 5, 3) (List.mem_of_getElem? (i := 17) rfl)
theorem dX8_takesE_266 : decode cX8_takesE 266 = .ok (.iconst 0, 1) := bdX8_takesE_226 (266, .iconst 0, 1) (List.mem_of_getElem? (i := 18) rfl)
theorem dX8_takesE_267 : decode cX8_takesE 267 = .ok (.ireturn, 1) := bdX8_takesE_226 (267, .ireturn, 1) (List.mem_of_getElem? (i := 19) rfl)
theorem dX8_takesE_268 : decode cX8_takesE 268 = .ok (.aload_n 0, 1) := bdX8_takesE_226 (268, .aload_n 0, 1) (List.mem_of_getElem? (i := 20) rfl)
theorem dX8_takesE_269 : decode cX8_takesE 269 = .ok (.getfield 41, 3) := bdX8_takesE_226 (269, .getfield 41, 3) (List.mem_of_getElem? (i := 21) rfl)
theorem dX8_takesE_272 : decode cX8_takesE 272 = .ok (.iload_n 1, 1) := bdX8_takesE_226 (272, .iload_n 1, 1) (List.mem_of_getElem? (i := 22) rfl)
theorem dX8_takesE_273 : decode cX8_takesE 273 = .ok (.iload 4, 2) := bdX8_takesE_226 (273, .iload 4, 2) (List.mem_of_getElem? (i := 23) rfl)
theorem dX8_takesE_275 : decode cX8_takesE 275 = .ok (.invokestatic 224, 3) := bdX8_takesE_226 (275, .invokestatic 224, 3) (List.mem_of_getElem? (i := 24) rfl)
theorem dX8_takesE_278 : decode cX8_takesE 278 = .ok (.iconst 3, 1) := bdX8_takesE_226 (278, .iconst 3, 1) (List.mem_of_getElem? (i := 25) rfl)
theorem dX8_takesE_279 : decode cX8_takesE 279 = .ok (.if_icmp .eq 21, 3) := bdX8_takesE_226 (279, .if_icmp .eq 21, 3) (List.mem_of_getElem? (i := 26) rfl)
theorem dX8_takesE_282 : decode cX8_takesE 282 = .ok (.iload 4, 2) := bdX8_takesE_226 (282, .iload 4, 2) (List.mem_of_getElem? (i := 27) rfl)
theorem dX8_takesE_284 : decode cX8_takesE 284 = .ok (.invokestatic 224, 3) := bdX8_takesE_226 (284, .invokestatic 224, 3) (List.mem_of_getElem? (i := 28) rfl)
theorem dX8_takesE_287 : decode cX8_takesE 287 = .ok (.iconst 3, 1) := bdX8_takesE_226 (287, .iconst 3, 1) (List.mem_of_getElem? (i := 29) rfl)
theorem dX8_takesE_288 : decode cX8_takesE 288 = .ok (.if_icmp .le 16, 3) := bdX8_takesE_226 (288, .if_icmp .le 16, 3) (List.mem_of_getElem? (i := 30) rfl)
theorem dX8_takesE_291 : decode cX8_takesE 291 = .ok (.aload_n 0, 1) := bdX8_takesE_226 (291, .aload_n 0, 1) (List.mem_of_getElem? (i := 31) rfl)
theorem dX8_takesE_292 : decode cX8_takesE 292 = .ok (.getfield 41, 3) := bdX8_takesE_226 (292, .getfield 41, 3) (List.mem_of_getElem? (i := 32) rfl)
theorem dX8_takesE_295 : decode cX8_takesE 295 = .ok (.iload_n 1, 1) := bdX8_takesE_226 (295, .iload_n 1, 1) (List.mem_of_getElem? (i := 33) rfl)
theorem dX8_takesE_297 : decode cX8_takesE 297 = .ok (.ifCond .eq 7, 3) := bdX8_takesE_226 (297, .ifCond .eq 7, 3) (List.mem_of_getElem? (i := 34) rfl)
theorem dX8_takesE_300 : decode cX8_takesE 300 = .ok (.iconst 1, 1) := bdX8_takesE_226 (300, .iconst 1, 1) (List.mem_of_getElem? (i := 35) rfl)
theorem dX8_takesE_301 : decode cX8_takesE 301 = .ok (.goto 4, 3) := bdX8_takesE_226 (301, .goto 4, 3) (List.mem_of_getElem? (i := 36) rfl)
theorem dX8_takesE_304 : decode cX8_takesE 304 = .ok (.iconst 0, 1) := bdX8_takesE_226 (304, .iconst 0, 1) (List.mem_of_getElem? (i := 37) rfl)
theorem dX8_takesE_306 : decode cX8_takesE 306 = .ok (.aload_n 0, 1) := bdX8_takesE_226 (306, .aload_n 0, 1) (List.mem_of_getElem? (i := 38) rfl)
theorem dX8_takesE_307 : decode cX8_takesE 307 = .ok (.iload 4, 2) := bdX8_takesE_226 (307, .iload 4, 2) (List.mem_of_getElem? (i := 39) rfl)
theorem bdX8_takesE_309 : ∀ q ∈ ([(309, .invokestatic 224, 3), (312, .invokevirtual 236, 3), (315, .aload_n 0, 1), (316, .getfield 38, 3), (319, .aload_n 0, 1), (320, .getfield 221, 3), (323, .iload 4, 2), (325, .iastore, 1), (326, .aload_n 0, 1), (327, .dup, 1), (328, .getfield 221, 3), (331, .iconst 1, 1), (332, .iadd, 1), (333, .putfield 221, 3), (336, .iconst 1, 1), (337, .istore_n 3, 1), (338, .aload_n 0, 1), (339, .invokevirtual 218, 3), (342, .goto (-314), 3), (345, .aload_n 0, 1), (346, .iconst 0, 1), (347, .invokevirtual 236, 3), (350, .iload_n 1, 1), (351, .ifCond .ne 7, 3), (354, .iconst 1, 1), (355, .goto 4, 3), (358, .iconst 0, 1), (359, .ireturn, 1)] : List (Nat × Jvm.ClassFile.Instr × Nat)), decode cX8_takesE q.1 = .ok q.2 := chk_ok _ 309 _ rfl (by decide +kernel)
theorem dX8_takesE_309 : decode cX8_takesE 309 = .ok (.invokestatic 224, 3) := bdX8_takesE_309 (309, .invokestatic 224, 3) (List.mem_of_getElem? (i := 0) rfl)
theorem dX8_takesE_312 : decode cX8_takesE 312 = .ok (.invokevirtual 236, 3) := bdX8_takesE_309 (312, .invokevirtual 236, 3) (List.mem_of_getElem? (i := 1) rfl)
theorem dX8_takesE_315 : decode cX8_takesE 315 = .ok (.aload_n 0, 1) := bdX8_takesE_309 (315, .aload_n 0, 1) (List.mem_of_getElem? (i := 2) rfl)
theorem dX8_takesE_316 : decode cX8_takesE 316 = .ok (.getfield 38, 3) := bdX8_takesE_309 (316, .getfield 38, 3) (List.mem_of_getElem? (i := 3) rfl)
theorem dX8_takesE_319 : decode cX8_takesE 319 = .ok (.aload_n 0, 1) := bdX8_takesE_309 (319, .aload_n 0, 1) (List.mem_of_getElem? (i := 4) rfl)
theorem dX8_takesE_320 : decode cX8_takesE 320 = .ok (.getfield 221, 3) := bdX8_takesE_309 (320, .getfield 221, 3) (List.mem_of_getElem? (i := 5) rfl)
theorem dX8_takesE_323 : decode cX8_takesE 323 = .ok (.iload 4, 2) := bdX8_takesE_309 (323, .iload 4, 2) (List.mem_of_getElem? (i := 6) rfl)
theorem dX8_takesE_325 : decode cX8_takesE 325 = .ok (.iastore, 1) := bdX8_takesE_309 (325, .iastore, 1) (List.mem_of_getElem? (i := 7) rfl)
theorem dX8_takesE_326 : decode cX8_takesE 326 = .ok (.aload_n 0, 1) := bdX8_takesE_309 (326, .aload_n 0, 1) (List.mem_of_getElem? (i := 8) rfl)
theorem dX8_takesE_327 : decode cX8_takesE 327 = .ok (.dup, 1) := bdX8_takesE_309 (327, .dup, 1) (List.mem_of_getElem? (i := 9) rfl)
theorem dX8_takesE_328 : decode cX8_takesE 328 = .ok (.getfield 221, 3) := bdX8_takesE_309 (328, .getfield 221, 3) (List.mem_of_getElem? (i := 10) rfl)
theorem dX8_takesE_331 : decode cX8_takesE 331 = .ok (.iconst 1, 1) := bdX8_takesE_309 (331, .iconst 1, 1) (List.mem_of_getElem? (i := 11) rfl)
theorem dX8_takesE_332 : decode cX8_takesE 332 = .ok (.iadd, 1) := bdX8_takesE_309 (332, .iadd, 1) (List.mem_of_getElem? (i := 12) rfl)
theorem dX8_takesE_333 : decode cX8_takesE 333 = .ok (.putfield 221, 3) := bdX8_takesE_309 (333, .putfield 221, 3) (List.mem_of_getElem? (i := 13) rfl)
theorem dX8_takesE_336 : decode cX8_takesE 336 = .ok (.iconst 1, 1) := bdX8_takesE_309 (336, .iconst 1, 1) (List.mem_of_getElem? (i := 14) rfl)
theorem dX8_takesE_337 : decode cX8_takesE 337 = .ok (.istore_n 3, 1) := bdX8_takesE_309 (337, .istore_n 3, 1) (List.mem_of_getElem? (i := 15) rfl)
theorem dX8_takesE_338 : decode cX8_takesE 338 = .ok (.aload_n 0, 1) := bdX8_takesE_309 (338, .aload_n 0, 1) (List.mem_of_getElem? (i := 16) rfl)
theorem dX8_takesE_339 : decode cX8_takesE 339 = .ok (.invokevirtual 218, 3) := bdX8_takesE_309 (339, .invokevirtual 218, 3) (List.mem_of_getElem? (i := 17) rfl)
theorem dX8_takesE_342 : decode cX8_takesE 342 = .ok (.goto (-314), 3) := bdX8_takesE_309 (342, .goto (-314), 3) (List.mem_of_getElem? (i := 18) rfl)
theorem dX8_takesE_345 : decode cX8_takesE 345 = .ok (.aload_n 0, 1) := bdX8_takesE_309 (345, .aload_n 0, 1) (List.mem_of_getElem? (i := 19) rfl)
theorem dX8_takesE_346 : decode cX8_takesE 346 = .ok (.iconst 0, 1) := bdX8_takesE_309 (346, .iconst 0, 1) (List.mem_of_getElem? (i := 20) rfl)
theorem dX8_takesE_347 : decode cX8_takesE 347 = .ok (.invokevirtual 236, 3) := bdX8_takesE_309 (347, .invokevirtual 236, 3) (List.mem_of_getElem? (i := 21) rfl)
theorem dX8_takesE_350 : decode cX8_takesE 350 = .ok (.iload_n 1, 1) := bdX8_takesE_309 (350, .iload_n 1, 1) (List.mem_of_getElem? (i := 22) rfl)
theorem dX8_takesE_351 : decode cX8_takesE 351 = .ok (.ifCond .ne 7, 3) := bdX8_takesE_309 (351, .ifCond .ne 7, 3) (List.mem_of_getElem? (i := 23) rfl)
theorem dX8_takesE_354 : decode cX8_takesE 354 = .ok (.iconst 1, 1) := bdX8_takesE_309 (354, .iconst 1, 1) (List.mem_of_getElem? (i := 24) rfl)
theorem dX8_takesE_355 : decode cX8_takesE 355 = .ok (.goto 4, 3) := bdX8_takesE_309 (355, .goto 4, 3) (List.mem_of_getElem? (i := 25) rfl)
theorem dX8_takesE_358 : decode cX8_takesE 358 = .ok (.iconst 0, 1) := bdX8_takesE_309 (358, .iconst 0, 1) (List.mem_of_getElem? (i := 26) rfl)
theorem dX8_takesE_359 : decode cX8_takesE 359 = .ok (.ireturn, 1) := bdX8_takesE_309 (359, .ireturn, 1) (List.mem_of_getElem? (i := 27) rfl)
theorem budX8_takesE_27 : ∀ q ∈ ([(27, .ok (.bastore, 1)), (150, .ok (.bastore, 1)), (262, .ok (.baload, 1)), (296, .ok (.baload, 1)), (305, .ok (.bastore, 1))] : List (Nat × Except Jvm.ClassFile.DecodeError (Jvm.ClassFile.Instr × Nat))), decode cX8_takesE q.1 = q.2 := by decide +kernel
theorem dX8_takesE_27 : decode cX8_takesE 27 = .ok (.bastore, 1) := budX8_takesE_27 (27, .ok (.bastore, 1)) (List.mem_of_getElem? (i := 0) rfl)
theorem dX8_takesE_150 : decode cX8_takesE 150 = .ok (.bastore, 1) := budX8_takesE_27 (150, .ok (.bastore, 1)) (List.mem_of_getElem? (i := 1) rfl)
theorem dX8_takesE_262 : decode cX8_takesE 262 = .ok (.baload, 1) := budX8_takesE_27 (262, .ok (.baload, 1)) (List.mem_of_getElem? (i := 2) rfl)
theorem dX8_takesE_296 : decode cX8_takesE 296 = .ok (.baload, 1) := budX8_takesE_27 (296, .ok (.baload, 1)) (List.mem_of_getElem? (i := 3) rfl)
theorem dX8_takesE_305 : decode cX8_takesE 305 = .ok (.bastore, 1) := budX8_takesE_27 (305, .ok (.bastore, 1)) (List.mem_of_getElem? (i := 4) rfl)
theorem fX8_41 : fldOK RX8 41 8 21 (.array .boolean) true := ⟨_, _, _, tyX8, ⟨rfl, iX8, by decide, rfl, by decide⟩, tw_958, ⟨tyX8_ok, nmX8⟩, by decide +kernel, rfl, rfl⟩
theorem kX8_246 : mthV RX8 246 8 yX8_signHere prog_10_method_63_code 1 (Option.some Jvm.ClassFile.FieldType.int) 0 := ⟨⟨⟨tw_1312, tw_67, tw_1315⟩, rfl, by decide +kernel⟩, tw_1314, tw_57, rfl⟩
theorem kX8_243 : mthV RX8 243 8 yX8_notsOpen prog_10_method_66_code 3 (Option.some Jvm.ClassFile.FieldType.int) 0 := ⟨⟨⟨tw_1308, tw_67, tw_1311⟩, rfl, by decide +kernel⟩, tw_1310, tw_56, rfl⟩
theorem kX8_239 : mthV RX8 239 8 yX8_takesPart prog_10_method_64_code 2 (Option.some Jvm.ClassFile.FieldType.boolean) 0 := ⟨⟨⟨tw_1293, tw_67, tw_1296⟩, rfl, by decide +kernel⟩, tw_1295, tw_53, rfl⟩
def BX8_takesE_305 (ln : Nat → Nat) (post : Int32 → HC → Prop) (K28 : HC → Nat → Int32 → Int32 → Int32 → Prop) (S : HC) (x0 : Nat) (x1 : Int32) (x2 : Int32) (x4 : Int32) (t0 : Nat) (t1 : Int32) (t2 : Int32) : Prop := as_ (ln t0) t1 (fun j => sI S t0 j (vp_nar .boolean t2)) fun S => wpX8_rank ln S x4 fun z1 S => wpX8_settle ln S x0 z1 fun S => dn_ (hR S x0 19) fun b2 => lt_ (hI S x0 20) fun z3 => as_ (ln b2) z3 (fun j => sI S b2 j x4) fun S => lt_ (hI S x0 20) fun z4 => lt_ (z4 + (1 : Int32)) fun z5 => lt_ (sI S x0 20 z5) fun S => wpX8_go ln S x0 fun S => K28 S x0 x1 x2 (1 : Int32)
def BX8_takesE_304 (ln : Nat → Nat) (post : Int32 → HC → Prop) (K28 : HC → Nat → Int32 → Int32 → Int32 → Prop) (S : HC) (x0 : Nat) (x1 : Int32) (x2 : Int32) (x4 : Int32) (t0 : Nat) (t1 : Int32) : Prop := BX8_takesE_305 ln post K28 S x0 x1 x2 x4 t0 t1 (0 : Int32)
def BX8_takesE_300 (ln : Nat → Nat) (post : Int32 → HC → Prop) (K28 : HC → Nat → Int32 → Int32 → Int32 → Prop) (S : HC) (x0 : Nat) (x1 : Int32) (x2 : Int32) (x4 : Int32) (t0 : Nat) (t1 : Int32) : Prop := BX8_takesE_305 ln post K28 S x0 x1 x2 x4 t0 t1 (1 : Int32)
def BX8_takesE_268 (ln : Nat → Nat) (post : Int32 → HC → Prop) (K28 : HC → Nat → Int32 → Int32 → Int32 → Prop) (S : HC) (x0 : Nat) (x1 : Int32) (x2 : Int32) (x4 : Int32) : Prop := dn_ (hR S x0 21) fun b6 => wpX8_rank ln S x4 fun z7 S => if z7 = (3 : Int32) then (BX8_takesE_300 ln post K28 S x0 x1 x2 x4 b6 x1) else (wpX8_rank ln S x4 fun z8 S => if z8 ≤ (3 : Int32) then (BX8_takesE_304 ln post K28 S x0 x1 x2 x4 b6 x1) else (dn_ (hR S x0 21) fun b9 => al_ (ln b9) x1 (hI S b9) fun z10 => if z10 = 0 then (BX8_takesE_304 ln post K28 S x0 x1 x2 x4 b6 x1) else (BX8_takesE_300 ln post K28 S x0 x1 x2 x4 b6 x1)))
def BX8_takesE_266 (ln : Nat → Nat) (post : Int32 → HC → Prop) (K28 : HC → Nat → Int32 → Int32 → Int32 → Prop) (S : HC)  : Prop := rb_ .boolean (0 : Int32) (post (0 : Int32) S)
def BX8_takesE_237 (ln : Nat → Nat) (post : Int32 → HC → Prop) (K28 : HC → Nat → Int32 → Int32 → Int32 → Prop) (S : HC) (x0 : Nat) (x1 : Int32) (x2 : Int32) : Prop := wpX8_signHere ln S x0 fun z11 S => if z11 = 0 then (BX8_takesE_266 ln post K28 S) else (wpX8_rank ln S z11 fun z12 S => if z12 = (3 : Int32) then (dn_ (hR S x0 21) fun b13 => al_ (ln b13) x1 (hI S b13) fun z14 => if z14 = 0 then (BX8_takesE_268 ln post K28 S x0 x1 x2 z11) else (BX8_takesE_266 ln post K28 S)) else (BX8_takesE_268 ln post K28 S x0 x1 x2 z11))
def BX8_takesE_172 (ln : Nat → Nat) (post : Int32 → HC → Prop) (K28 : HC → Nat → Int32 → Int32 → Int32 → Prop) (S : HC) (x0 : Nat) (x1 : Int32) (x3 : Int32) : Prop := wpX8_notsOpen ln S x0 fun z15 S => K28 S x0 x1 z15 x3
def BX8_takesE_158 (ln : Nat → Nat) (post : Int32 → HC → Prop) (K28 : HC → Nat → Int32 → Int32 → Int32 → Prop) (S : HC) (x0 : Nat) (x1 : Int32) : Prop := wpX8_takesPart ln S x0 fun z16 S => if z16 = 0 then (rb_ .boolean (0 : Int32) (post (0 : Int32) S)) else (BX8_takesE_172 ln post K28 S x0 x1 (0 : Int32))
def BX8_takesE_97 (ln : Nat → Nat) (post : Int32 → HC → Prop) (K28 : HC → Nat → Int32 → Int32 → Int32 → Prop) (S : HC) (x0 : Nat) (x1 : Int32) (x3 : Int32) : Prop := lt_ (hI S x0 10) fun z17 => if z17 = (3 : Int32) then (lt_ (hI S x0 11) fun z18 => if z18 = (40 : Int32) then (if (8 : Int32) ≤ x1 then (BX8_takesE_158 ln post K28 S x0 x1) else (dn_ (hR S x0 19) fun b19 => lt_ (hI S x0 20) fun z20 => as_ (ln b19) z20 (fun j => sI S b19 j (-11 : Int32)) fun S => lt_ (hI S x0 20) fun z21 => lt_ (z21 + (1 : Int32)) fun z22 => lt_ (sI S x0 20 z22) fun S => lt_ (x1 + (1 : Int32)) fun z23 => dn_ (hR S x0 21) fun b24 => as_ (ln b24) z23 (fun j => sI S b24 j (vp_nar .boolean (0 : Int32))) fun S => wpX8_go ln S x0 fun S => BX8_takesE_172 ln post K28 S x0 z23 x3)) else (BX8_takesE_158 ln post K28 S x0 x1)) else (BX8_takesE_158 ln post K28 S x0 x1)
def BX8_takesE_39 (ln : Nat → Nat) (post : Int32 → HC → Prop) (K28 : HC → Nat → Int32 → Int32 → Int32 → Prop) (S : HC) (x0 : Nat) (x1 : Int32) (x2 : Int32) (x3 : Int32) : Prop := if x3 = 0 then (lt_ (hI S x0 10) fun z25 => if z25 = (3 : Int32) then (lt_ (hI S x0 11) fun z26 => if z26 = (41 : Int32) then (if x1 ≤ 0 then (BX8_takesE_237 ln post K28 S x0 x1 x2) else (wpX8_settle ln S x0 (0 : Int32) fun S => lt_ (hI S x0 20) fun z27 => lt_ (z27 - (1 : Int32)) fun z28 => lt_ (sI S x0 20 z28) fun S => lt_ (x1 + (-1 : Int32)) fun z29 => wpX8_settle ln S x0 (6 : Int32) fun S => wpX8_notsOpen ln S x0 fun z30 S => wpX8_go ln S x0 fun S => K28 S x0 z29 z30 x3)) else (BX8_takesE_237 ln post K28 S x0 x1 x2)) else (BX8_takesE_237 ln post K28 S x0 x1 x2)) else (lt_ (hI S x0 10) fun z31 => if z31 = (3 : Int32) then (lt_ (hI S x0 11) fun z32 => if z32 = (33 : Int32) then (if (8 : Int32) ≤ x2 then (BX8_takesE_97 ln post K28 S x0 x1 x3) else (dn_ (hR S x0 19) fun b33 => lt_ (hI S x0 20) fun z34 => as_ (ln b33) z34 (fun j => sI S b33 j (-10 : Int32)) fun S => lt_ (hI S x0 20) fun z35 => lt_ (z35 + (1 : Int32)) fun z36 => lt_ (sI S x0 20 z36) fun S => lt_ (x2 + (1 : Int32)) fun z37 => wpX8_go ln S x0 fun S => BX8_takesE_172 ln post K28 S x0 x1 x3)) else (BX8_takesE_97 ln post K28 S x0 x1 x3)) else (BX8_takesE_97 ln post K28 S x0 x1 x3))
def LX8_takesE_28 (ln : Nat → Nat) (post : Int32 → HC → Prop) : Nat → HC → Nat → Int32 → Int32 → Int32 → Prop
  | 0 => fun _ _ _ _ _ => False
  | n28 + 1 => fun S x0 x1 x2 x3 => if x3 = 0 then (lt_ (hI S x0 10) fun z38 => if z38 = 0 then (wpX8_settle ln S x0 (0 : Int32) fun S => if x1 = 0 then (rb_ .boolean (1 : Int32) (post (1 : Int32) S)) else (rb_ .boolean (0 : Int32) (post (0 : Int32) S))) else (BX8_takesE_39 ln post (LX8_takesE_28 ln post n28) S x0 x1 x2 x3)) else (BX8_takesE_39 ln post (LX8_takesE_28 ln post n28) S x0 x1 x2 x3)
def wpX8_takesE (ln : Nat → Nat) (S : HC) (a0 : Nat) (post : Int32 → HC → Prop) : Prop := lt_ (sI S a0 17 (0 : Int32)) fun S => lt_ (sI S a0 18 (0 : Int32)) fun S => lt_ (sI S a0 20 (0 : Int32)) fun S => dn_ (hR S a0 21) fun b39 => as_ (ln b39) (0 : Int32) (fun j => sI S b39 j (vp_nar .boolean (0 : Int32))) fun S => ∃ n28, LX8_takesE_28 ln post n28 S a0 (0 : Int32) (0 : Int32) (1 : Int32)
abbrev rmX8_takesE : Room := { frames := 3, cells := 0, slots := 0, locals := 63 }
set_option maxHeartbeats 4000000 in
set_option maxRecDepth 100000 in
theorem ctX8_takesE {l : Launch} {g : GX} {N : Nat} {ln : Nat → Nat} {S : HC} {a0 : Nat} {post : Int32 → HC → Prop} (hr_a0 : a0 < N) (hk_a0 : kd a0 = 8) (h : wpX8_takesE ln S a0 post) : Met l yX8_takesE (Cond.code yX8_takesE prog_10_method_65_code 5 (Option.some Jvm.ClassFile.FieldType.boolean) :: gtbl) rmX8_takesE (va_Pc [.ref (gz g + a0)] (AtP g N ln S)) (QI g N ln post) 0 0 (gF g) := by
  refine m_of (by decide) (Nat.le_of_ble_eq_true rfl) ?_
  intro p e s m below meth c ls F hr I hl
  have hl : lv_has ls 5 [(0, .ref (gz g + a0))] := hl
  unfold wpX8_takesE at h
  have hl_28 : ∀ n28 : Nat, ∀ (S : HC) (H : Heap) (locs : List Loc) (ls : Array Slot) (x0 : Nat) (x1 : Int32) (x2 : Int32) (x3 : Int32), x0 < N → kd x0 = 8 → LX8_takesE_28 ln post n28 S x0 x1 x2 x3 → Inv g N ln S s H locs → lv_has ls 5 [(0, .ref (gz g + x0)), (1, .int x1), (2, .int x2), (3, .int x3)] → W p l e rmX8_takesE s m ([.ref (gz g + a0)] : List Value).toArray below meth c H locs 0 0 (MQ below (QI g N ln post) ([.ref (gz g + a0)] : List Value).toArray s 0 0 (gF g)) (F0 m 28 ls []) := by
    intro n28
    induction n28 with
    | zero =>
      intro S H locs ls x0 x1 x2 x3 hr_x0 hk_x0 h I hl
      exact h.elim
    | succ n28 ih =>
      have hk28 := ih
      have hj_305 : ∀ (S : HC) (H : Heap) (locs : List Loc) (ls : Array Slot) (x0 : Nat) (x1 : Int32) (x2 : Int32) (x4 : Int32) (t0 : Nat) (t1 : Int32) (t2 : Int32), x0 < N → kd x0 = 8 → t0 < N → kd t0 = 11 → BX8_takesE_305 ln post (LX8_takesE_28 ln post n28) S x0 x1 x2 x4 t0 t1 t2 → Inv g N ln S s H locs → lv_has ls 5 [(0, .ref (gz g + x0)), (1, .int x1), (2, .int x2), (4, .int x4)] → W p l e rmX8_takesE s m ([.ref (gz g + a0)] : List Value).toArray below meth c H locs 0 0 (MQ below (QI g N ln post) ([.ref (gz g + a0)] : List Value).toArray s 0 0 (gF g)) (F0 m 305 ls [.int t2, .int t1, .ref (gz g + t0)]) := by
        intro S H locs ls x0 x1 x2 x4 t0 t1 t2 hr_x0 hk_x0 hr_t0 hk_t0 h I hl
        unfold BX8_takesE_305 at h
        refine r_zast F I hr_t0 hk_t0 dX8_takesE_305 h (fun S H locs I h => ?_)
        refine lv_aload_n F.1 F.2.1 dX8_takesE_306 rfl (lv_at hl 0 rfl) ?_
        refine lv_iload F.1 F.2.1 dX8_takesE_307 (lv_at hl 3 rfl) ?_
        refine g_I I (run_S (As := [.int x4]) (rest := [.ref (gz g + x0)]) F I kX8_224 (ctX8_rank h) ⟨rfl, rfl⟩ ⟨Nat.le_of_ble_eq_true rfl, Nat.le_of_ble_eq_true rfl⟩ rfl hl.1 rfl (Nat.le_of_ble_eq_true rfl) ⟨Nat.le_of_ble_eq_true rfl, Nat.le_of_ble_eq_true rfl⟩ dX8_takesE_309) (fun z1 S H locs I h => ?_)
        refine g_V I (run_V (As := [.int z1]) (rest := []) F I hr_x0 hk_x0 (by decide) kX8_236 (ctX8_settle hr_x0 hk_x0 h) ⟨rfl, rfl⟩ ⟨Nat.le_of_ble_eq_true rfl, Nat.le_of_ble_eq_true rfl⟩ rfl hl.1 rfl (Nat.le_of_ble_eq_true rfl) ⟨Nat.le_of_ble_eq_true rfl, Nat.le_of_ble_eq_true rfl⟩ dX8_takesE_312) (fun S H locs I h => ?_)
        refine lv_aload_n F.1 F.2.1 dX8_takesE_315 rfl (lv_at hl 0 rfl) ?_
        refine r_getN F I hr_x0 hk_x0 fX8_38 (f := 9) rfl (by decide) dX8_takesE_316 h (fun b2 hr_b2 hk_b2 h => ?_)
        refine lv_aload_n F.1 F.2.1 dX8_takesE_319 rfl (lv_at hl 0 rfl) ?_
        refine r_getI F I hr_x0 hk_x0 fX8_221 rfl dX8_takesE_320 h (fun z3 h => ?_)
        refine lv_iload F.1 F.2.1 dX8_takesE_323 (lv_at hl 3 rfl) ?_
        refine r_ast F I hr_b2 hk_b2 dX8_takesE_325 h (fun S H locs I h => ?_)
        refine lv_aload_n F.1 F.2.1 dX8_takesE_326 rfl (lv_at hl 0 rfl) ?_
        refine lv_dup F.1 F.2.1 dX8_takesE_327 rfl ?_
        refine r_getI F I hr_x0 hk_x0 fX8_221 rfl dX8_takesE_328 h (fun z4 h => ?_)
        refine lv_iconst (v := 1) F.1 F.2.1 dX8_takesE_331 (by decide) ?_
        refine r_iadd F dX8_takesE_332 h (fun z5 h => ?_)
        refine r_putI F I hr_x0 hk_x0 fX8_221 rfl (Or.inl rfl) ⟨rfl, rfl⟩ dX8_takesE_333 h (fun S H locs I h => ?_)
        refine lv_iconst (v := 1) F.1 F.2.1 dX8_takesE_336 (by decide) ?_
        refine lv_istore_n (lv' := [(3, .int (1 : Int32)), (0, .ref (gz g + x0)), (1, .int x1), (2, .int x2), (4, .int x4)]) F.1 F.2.1 dX8_takesE_337 rfl hl (by decide) rfl (fun ls hl => ?_)
        refine lv_aload_n F.1 F.2.1 dX8_takesE_338 rfl (lv_at hl 1 rfl) ?_
        refine g_V I (run_V (As := []) (rest := []) F I hr_x0 hk_x0 (by decide) kX8_218 (ctX8_go hr_x0 hk_x0 h) ⟨rfl, rfl⟩ ⟨Nat.le_of_ble_eq_true rfl, Nat.le_of_ble_eq_true rfl⟩ rfl hl.1 rfl (Nat.le_of_ble_eq_true rfl) ⟨Nat.le_of_ble_eq_true rfl, Nat.le_of_ble_eq_true rfl⟩ dX8_takesE_339) (fun S H locs I h => ?_)
        refine lv_goto (tgt := 28) F.1 F.2.1 dX8_takesE_342 (by decide) ?_
        exact hk28 S _ _ _ x0 x1 x2 (1 : Int32) hr_x0 hk_x0 h I (lv_sub hl [1, 2, 3, 0] rfl)
      have hj_304 : ∀ (S : HC) (H : Heap) (locs : List Loc) (ls : Array Slot) (x0 : Nat) (x1 : Int32) (x2 : Int32) (x4 : Int32) (t0 : Nat) (t1 : Int32), x0 < N → kd x0 = 8 → t0 < N → kd t0 = 11 → BX8_takesE_304 ln post (LX8_takesE_28 ln post n28) S x0 x1 x2 x4 t0 t1 → Inv g N ln S s H locs → lv_has ls 5 [(0, .ref (gz g + x0)), (1, .int x1), (2, .int x2), (4, .int x4)] → W p l e rmX8_takesE s m ([.ref (gz g + a0)] : List Value).toArray below meth c H locs 0 0 (MQ below (QI g N ln post) ([.ref (gz g + a0)] : List Value).toArray s 0 0 (gF g)) (F0 m 304 ls [.int t1, .ref (gz g + t0)]) := by
        intro S H locs ls x0 x1 x2 x4 t0 t1 hr_x0 hk_x0 hr_t0 hk_t0 h I hl
        unfold BX8_takesE_304 at h
        refine lv_iconst (v := 0) F.1 F.2.1 dX8_takesE_304 (by decide) ?_
        exact hj_305 S _ _ _ x0 x1 x2 x4 t0 t1 (0 : Int32) hr_x0 hk_x0 hr_t0 hk_t0 h I (lv_sub hl [0, 1, 2, 3] rfl)
      have hj_300 : ∀ (S : HC) (H : Heap) (locs : List Loc) (ls : Array Slot) (x0 : Nat) (x1 : Int32) (x2 : Int32) (x4 : Int32) (t0 : Nat) (t1 : Int32), x0 < N → kd x0 = 8 → t0 < N → kd t0 = 11 → BX8_takesE_300 ln post (LX8_takesE_28 ln post n28) S x0 x1 x2 x4 t0 t1 → Inv g N ln S s H locs → lv_has ls 5 [(0, .ref (gz g + x0)), (1, .int x1), (2, .int x2), (4, .int x4)] → W p l e rmX8_takesE s m ([.ref (gz g + a0)] : List Value).toArray below meth c H locs 0 0 (MQ below (QI g N ln post) ([.ref (gz g + a0)] : List Value).toArray s 0 0 (gF g)) (F0 m 300 ls [.int t1, .ref (gz g + t0)]) := by
        intro S H locs ls x0 x1 x2 x4 t0 t1 hr_x0 hk_x0 hr_t0 hk_t0 h I hl
        unfold BX8_takesE_300 at h
        refine lv_iconst (v := 1) F.1 F.2.1 dX8_takesE_300 (by decide) ?_
        refine lv_goto (tgt := 305) F.1 F.2.1 dX8_takesE_301 (by decide) ?_
        exact hj_305 S _ _ _ x0 x1 x2 x4 t0 t1 (1 : Int32) hr_x0 hk_x0 hr_t0 hk_t0 h I (lv_sub hl [0, 1, 2, 3] rfl)
      have hj_268 : ∀ (S : HC) (H : Heap) (locs : List Loc) (ls : Array Slot) (x0 : Nat) (x1 : Int32) (x2 : Int32) (x4 : Int32), x0 < N → kd x0 = 8 → BX8_takesE_268 ln post (LX8_takesE_28 ln post n28) S x0 x1 x2 x4 → Inv g N ln S s H locs → lv_has ls 5 [(0, .ref (gz g + x0)), (1, .int x1), (2, .int x2), (4, .int x4)] → W p l e rmX8_takesE s m ([.ref (gz g + a0)] : List Value).toArray below meth c H locs 0 0 (MQ below (QI g N ln post) ([.ref (gz g + a0)] : List Value).toArray s 0 0 (gF g)) (F0 m 268 ls []) := by
        intro S H locs ls x0 x1 x2 x4 hr_x0 hk_x0 h I hl
        unfold BX8_takesE_268 at h
        refine lv_aload_n F.1 F.2.1 dX8_takesE_268 rfl (lv_at hl 0 rfl) ?_
        refine r_getN F I hr_x0 hk_x0 fX8_41 (f := 11) rfl (by decide) dX8_takesE_269 h (fun b6 hr_b6 hk_b6 h => ?_)
        refine lv_iload_n F.1 F.2.1 dX8_takesE_272 rfl (lv_at hl 1 rfl) ?_
        refine lv_iload F.1 F.2.1 dX8_takesE_273 (lv_at hl 3 rfl) ?_
        refine g_I I (run_S (As := [.int x4]) (rest := [.int x1, .ref (gz g + b6)]) F I kX8_224 (ctX8_rank h) ⟨rfl, rfl⟩ ⟨Nat.le_of_ble_eq_true rfl, Nat.le_of_ble_eq_true rfl⟩ rfl hl.1 rfl (Nat.le_of_ble_eq_true rfl) ⟨Nat.le_of_ble_eq_true rfl, Nat.le_of_ble_eq_true rfl⟩ dX8_takesE_275) (fun z7 S H locs I h => ?_)
        refine lv_iconst (v := 3) F.1 F.2.1 dX8_takesE_278 (by decide) ?_
        refine r_icmp_eq (tgt := 300) F dX8_takesE_279 (by decide) h (fun h => ?_) (fun h => ?_)
        · exact hj_300 S _ _ _ x0 x1 x2 x4 b6 x1 hr_x0 hk_x0 hr_b6 hk_b6 h I (lv_sub hl [0, 1, 2, 3] rfl)
        · refine lv_iload F.1 F.2.1 dX8_takesE_282 (lv_at hl 3 rfl) ?_
          refine g_I I (run_S (As := [.int x4]) (rest := [.int x1, .ref (gz g + b6)]) F I kX8_224 (ctX8_rank h) ⟨rfl, rfl⟩ ⟨Nat.le_of_ble_eq_true rfl, Nat.le_of_ble_eq_true rfl⟩ rfl hl.1 rfl (Nat.le_of_ble_eq_true rfl) ⟨Nat.le_of_ble_eq_true rfl, Nat.le_of_ble_eq_true rfl⟩ dX8_takesE_284) (fun z8 S H locs I h => ?_)
          refine lv_iconst (v := 3) F.1 F.2.1 dX8_takesE_287 (by decide) ?_
          refine r_icmp_le (tgt := 304) F dX8_takesE_288 (by decide) h (fun h => ?_) (fun h => ?_)
          · exact hj_304 S _ _ _ x0 x1 x2 x4 b6 x1 hr_x0 hk_x0 hr_b6 hk_b6 h I (lv_sub hl [0, 1, 2, 3] rfl)
          · refine lv_aload_n F.1 F.2.1 dX8_takesE_291 rfl (lv_at hl 0 rfl) ?_
            refine r_getN F I hr_x0 hk_x0 fX8_41 (f := 11) rfl (by decide) dX8_takesE_292 h (fun b9 hr_b9 hk_b9 h => ?_)
            refine lv_iload_n F.1 F.2.1 dX8_takesE_295 rfl (lv_at hl 1 rfl) ?_
            refine r_zald F I hr_b9 hk_b9 dX8_takesE_296 h (fun z10 h => ?_)
            refine r_if_eq (tgt := 304) F dX8_takesE_297 (by decide) h (fun h => ?_) (fun h => ?_)
            · exact hj_304 S _ _ _ x0 x1 x2 x4 b6 x1 hr_x0 hk_x0 hr_b6 hk_b6 h I (lv_sub hl [0, 1, 2, 3] rfl)
            · exact hj_300 S _ _ _ x0 x1 x2 x4 b6 x1 hr_x0 hk_x0 hr_b6 hk_b6 h I (lv_sub hl [0, 1, 2, 3] rfl)
      have hj_266 : ∀ (S : HC) (H : Heap) (locs : List Loc) (ls : Array Slot), BX8_takesE_266 ln post (LX8_takesE_28 ln post n28) S  → Inv g N ln S s H locs → lv_has ls 5 [] → W p l e rmX8_takesE s m ([.ref (gz g + a0)] : List Value).toArray below meth c H locs 0 0 (MQ below (QI g N ln post) ([.ref (gz g + a0)] : List Value).toArray s 0 0 (gF g)) (F0 m 266 ls []) := by
        intro S H locs ls h I hl
        unfold BX8_takesE_266 at h
        refine lv_iconst (v := 0) F.1 F.2.1 dX8_takesE_266 (by decide) ?_
        exact r_zreturn F I ⟨hr.1, hr.2.1, trivial⟩ h dX8_takesE_267
      have hj_237 : ∀ (S : HC) (H : Heap) (locs : List Loc) (ls : Array Slot) (x0 : Nat) (x1 : Int32) (x2 : Int32), x0 < N → kd x0 = 8 → BX8_takesE_237 ln post (LX8_takesE_28 ln post n28) S x0 x1 x2 → Inv g N ln S s H locs → lv_has ls 5 [(0, .ref (gz g + x0)), (1, .int x1), (2, .int x2)] → W p l e rmX8_takesE s m ([.ref (gz g + a0)] : List Value).toArray below meth c H locs 0 0 (MQ below (QI g N ln post) ([.ref (gz g + a0)] : List Value).toArray s 0 0 (gF g)) (F0 m 237 ls []) := by
        intro S H locs ls x0 x1 x2 hr_x0 hk_x0 h I hl
        unfold BX8_takesE_237 at h
        refine lv_aload_n F.1 F.2.1 dX8_takesE_237 rfl (lv_at hl 0 rfl) ?_
        refine g_I I (run_V (As := []) (rest := []) F I hr_x0 hk_x0 (by decide) kX8_246 (ctX8_signHere hr_x0 hk_x0 h) ⟨rfl, rfl⟩ ⟨Nat.le_of_ble_eq_true rfl, Nat.le_of_ble_eq_true rfl⟩ rfl hl.1 rfl (Nat.le_of_ble_eq_true rfl) ⟨Nat.le_of_ble_eq_true rfl, Nat.le_of_ble_eq_true rfl⟩ dX8_takesE_238) (fun z11 S H locs I h => ?_)
        refine lv_istore (lv' := [(4, .int z11), (0, .ref (gz g + x0)), (1, .int x1), (2, .int x2)]) F.1 F.2.1 dX8_takesE_241 hl (by decide) rfl (fun ls hl => ?_)
        refine lv_iload F.1 F.2.1 dX8_takesE_243 (lv_at hl 0 rfl) ?_
        refine r_if_eq (tgt := 266) F dX8_takesE_245 (by decide) h (fun h => ?_) (fun h => ?_)
        · exact hj_266 S _ _ _   h I (lv_sub hl [] rfl)
        · refine lv_iload F.1 F.2.1 dX8_takesE_248 (lv_at hl 0 rfl) ?_
          refine g_I I (run_S (As := [.int z11]) (rest := []) F I kX8_224 (ctX8_rank h) ⟨rfl, rfl⟩ ⟨Nat.le_of_ble_eq_true rfl, Nat.le_of_ble_eq_true rfl⟩ rfl hl.1 rfl (Nat.le_of_ble_eq_true rfl) ⟨Nat.le_of_ble_eq_true rfl, Nat.le_of_ble_eq_true rfl⟩ dX8_takesE_250) (fun z12 S H locs I h => ?_)
          refine lv_iconst (v := 3) F.1 F.2.1 dX8_takesE_253 (by decide) ?_
          refine r_icmp_ne (tgt := 268) F dX8_takesE_254 (by decide) h (fun h => ?_) (fun h => ?_)
          · exact hj_268 S _ _ _ x0 x1 x2 z11 hr_x0 hk_x0 h I (lv_sub hl [1, 2, 3, 0] rfl)
          · refine lv_aload_n F.1 F.2.1 dX8_takesE_257 rfl (lv_at hl 1 rfl) ?_
            refine r_getN F I hr_x0 hk_x0 fX8_41 (f := 11) rfl (by decide) dX8_takesE_258 h (fun b13 hr_b13 hk_b13 h => ?_)
            refine lv_iload_n F.1 F.2.1 dX8_takesE_261 rfl (lv_at hl 2 rfl) ?_
            refine r_zald F I hr_b13 hk_b13 dX8_takesE_262 h (fun z14 h => ?_)
            refine r_if_eq (tgt := 268) F dX8_takesE_263 (by decide) h (fun h => ?_) (fun h => ?_)
            · exact hj_268 S _ _ _ x0 x1 x2 z11 hr_x0 hk_x0 h I (lv_sub hl [1, 2, 3, 0] rfl)
            · exact hj_266 S _ _ _   h I (lv_sub hl [] rfl)
      have hj_172 : ∀ (S : HC) (H : Heap) (locs : List Loc) (ls : Array Slot) (x0 : Nat) (x1 : Int32) (x3 : Int32), x0 < N → kd x0 = 8 → BX8_takesE_172 ln post (LX8_takesE_28 ln post n28) S x0 x1 x3 → Inv g N ln S s H locs → lv_has ls 5 [(0, .ref (gz g + x0)), (1, .int x1), (3, .int x3)] → W p l e rmX8_takesE s m ([.ref (gz g + a0)] : List Value).toArray below meth c H locs 0 0 (MQ below (QI g N ln post) ([.ref (gz g + a0)] : List Value).toArray s 0 0 (gF g)) (F0 m 172 ls []) := by
        intro S H locs ls x0 x1 x3 hr_x0 hk_x0 h I hl
        unfold BX8_takesE_172 at h
        refine lv_aload_n F.1 F.2.1 dX8_takesE_172 rfl (lv_at hl 0 rfl) ?_
        refine g_I I (run_V (As := []) (rest := []) F I hr_x0 hk_x0 (by decide) kX8_243 (ctX8_notsOpen hr_x0 hk_x0 h) ⟨rfl, rfl⟩ ⟨Nat.le_of_ble_eq_true rfl, Nat.le_of_ble_eq_true rfl⟩ rfl hl.1 rfl (Nat.le_of_ble_eq_true rfl) ⟨Nat.le_of_ble_eq_true rfl, Nat.le_of_ble_eq_true rfl⟩ dX8_takesE_173) (fun z15 S H locs I h => ?_)
        refine lv_istore_n (lv' := [(2, .int z15), (0, .ref (gz g + x0)), (1, .int x1), (3, .int x3)]) F.1 F.2.1 dX8_takesE_176 rfl hl (by decide) rfl (fun ls hl => ?_)
        refine lv_goto (tgt := 28) F.1 F.2.1 dX8_takesE_177 (by decide) ?_
        exact hk28 S _ _ _ x0 x1 z15 x3 hr_x0 hk_x0 h I (lv_sub hl [1, 2, 0, 3] rfl)
      have hj_158 : ∀ (S : HC) (H : Heap) (locs : List Loc) (ls : Array Slot) (x0 : Nat) (x1 : Int32), x0 < N → kd x0 = 8 → BX8_takesE_158 ln post (LX8_takesE_28 ln post n28) S x0 x1 → Inv g N ln S s H locs → lv_has ls 5 [(0, .ref (gz g + x0)), (1, .int x1)] → W p l e rmX8_takesE s m ([.ref (gz g + a0)] : List Value).toArray below meth c H locs 0 0 (MQ below (QI g N ln post) ([.ref (gz g + a0)] : List Value).toArray s 0 0 (gF g)) (F0 m 158 ls []) := by
        intro S H locs ls x0 x1 hr_x0 hk_x0 h I hl
        unfold BX8_takesE_158 at h
        refine lv_aload_n F.1 F.2.1 dX8_takesE_158 rfl (lv_at hl 0 rfl) ?_
        refine g_I I (run_V (As := []) (rest := []) F I hr_x0 hk_x0 (by decide) kX8_239 (ctX8_takesPart hr_x0 hk_x0 h) ⟨rfl, rfl⟩ ⟨Nat.le_of_ble_eq_true rfl, Nat.le_of_ble_eq_true rfl⟩ rfl hl.1 rfl (Nat.le_of_ble_eq_true rfl) ⟨Nat.le_of_ble_eq_true rfl, Nat.le_of_ble_eq_true rfl⟩ dX8_takesE_159) (fun z16 S H locs I h => ?_)
        refine r_if_eq (tgt := 170) F dX8_takesE_162 (by decide) h (fun h => ?_) (fun h => ?_)
        · refine lv_iconst (v := 0) F.1 F.2.1 dX8_takesE_170 (by decide) ?_
          exact r_zreturn F I ⟨hr.1, hr.2.1, trivial⟩ h dX8_takesE_171
        · refine lv_iconst (v := 0) F.1 F.2.1 dX8_takesE_165 (by decide) ?_
          refine lv_istore_n (lv' := [(3, .int (0 : Int32)), (0, .ref (gz g + x0)), (1, .int x1)]) F.1 F.2.1 dX8_takesE_166 rfl hl (by decide) rfl (fun ls hl => ?_)
          refine lv_goto (tgt := 172) F.1 F.2.1 dX8_takesE_167 (by decide) ?_
          exact hj_172 S _ _ _ x0 x1 (0 : Int32) hr_x0 hk_x0 h I (lv_sub hl [1, 2, 0] rfl)
      have hj_97 : ∀ (S : HC) (H : Heap) (locs : List Loc) (ls : Array Slot) (x0 : Nat) (x1 : Int32) (x3 : Int32), x0 < N → kd x0 = 8 → BX8_takesE_97 ln post (LX8_takesE_28 ln post n28) S x0 x1 x3 → Inv g N ln S s H locs → lv_has ls 5 [(0, .ref (gz g + x0)), (1, .int x1), (3, .int x3)] → W p l e rmX8_takesE s m ([.ref (gz g + a0)] : List Value).toArray below meth c H locs 0 0 (MQ below (QI g N ln post) ([.ref (gz g + a0)] : List Value).toArray s 0 0 (gF g)) (F0 m 97 ls []) := by
        intro S H locs ls x0 x1 x3 hr_x0 hk_x0 h I hl
        unfold BX8_takesE_97 at h
        refine lv_aload_n F.1 F.2.1 dX8_takesE_97 rfl (lv_at hl 0 rfl) ?_
        refine r_getI F I hr_x0 hk_x0 fX8_203 rfl dX8_takesE_98 h (fun z17 h => ?_)
        refine lv_iconst (v := 3) F.1 F.2.1 dX8_takesE_101 (by decide) ?_
        refine r_icmp_ne (tgt := 158) F dX8_takesE_102 (by decide) h (fun h => ?_) (fun h => ?_)
        · exact hj_158 S _ _ _ x0 x1 hr_x0 hk_x0 h I (lv_sub hl [0, 1] rfl)
        · refine lv_aload_n F.1 F.2.1 dX8_takesE_105 rfl (lv_at hl 0 rfl) ?_
          refine r_getI F I hr_x0 hk_x0 fX8_209 rfl dX8_takesE_106 h (fun z18 h => ?_)
          refine lv_bipush (v := 40) F.1 F.2.1 dX8_takesE_109 (by decide) ?_
          refine r_icmp_ne (tgt := 158) F dX8_takesE_111 (by decide) h (fun h => ?_) (fun h => ?_)
          · exact hj_158 S _ _ _ x0 x1 hr_x0 hk_x0 h I (lv_sub hl [0, 1] rfl)
          · refine lv_iload_n F.1 F.2.1 dX8_takesE_114 rfl (lv_at hl 1 rfl) ?_
            refine lv_bipush (v := 8) F.1 F.2.1 dX8_takesE_115 (by decide) ?_
            refine r_icmp_ge (tgt := 158) F dX8_takesE_117 (by decide) h (fun h => ?_) (fun h => ?_)
            · exact hj_158 S _ _ _ x0 x1 hr_x0 hk_x0 h I (lv_sub hl [0, 1] rfl)
            · refine lv_aload_n F.1 F.2.1 dX8_takesE_120 rfl (lv_at hl 0 rfl) ?_
              refine r_getN F I hr_x0 hk_x0 fX8_38 (f := 9) rfl (by decide) dX8_takesE_121 h (fun b19 hr_b19 hk_b19 h => ?_)
              refine lv_aload_n F.1 F.2.1 dX8_takesE_124 rfl (lv_at hl 0 rfl) ?_
              refine r_getI F I hr_x0 hk_x0 fX8_221 rfl dX8_takesE_125 h (fun z20 h => ?_)
              refine lv_bipush (v := -11) F.1 F.2.1 dX8_takesE_128 (by decide) ?_
              refine r_ast F I hr_b19 hk_b19 dX8_takesE_130 h (fun S H locs I h => ?_)
              refine lv_aload_n F.1 F.2.1 dX8_takesE_131 rfl (lv_at hl 0 rfl) ?_
              refine lv_dup F.1 F.2.1 dX8_takesE_132 rfl ?_
              refine r_getI F I hr_x0 hk_x0 fX8_221 rfl dX8_takesE_133 h (fun z21 h => ?_)
              refine lv_iconst (v := 1) F.1 F.2.1 dX8_takesE_136 (by decide) ?_
              refine r_iadd F dX8_takesE_137 h (fun z22 h => ?_)
              refine r_putI F I hr_x0 hk_x0 fX8_221 rfl (Or.inl rfl) ⟨rfl, rfl⟩ dX8_takesE_138 h (fun S H locs I h => ?_)
              obtain ⟨z23, e_z23, h⟩ := lt_x h
              refine lv_iinc (v := z23) (lv' := [(1, .int z23), (0, .ref (gz g + x0)), (3, .int x3)]) F.1 F.2.1 dX8_takesE_141 hl (k := 1) rfl (by rw [e_z23]; rfl) (by decide) rfl (fun ls hl => ?_)
              refine lv_aload_n F.1 F.2.1 dX8_takesE_144 rfl (lv_at hl 1 rfl) ?_
              refine r_getN F I hr_x0 hk_x0 fX8_41 (f := 11) rfl (by decide) dX8_takesE_145 h (fun b24 hr_b24 hk_b24 h => ?_)
              refine lv_iload_n F.1 F.2.1 dX8_takesE_148 rfl (lv_at hl 0 rfl) ?_
              refine lv_iconst (v := 0) F.1 F.2.1 dX8_takesE_149 (by decide) ?_
              refine r_zast F I hr_b24 hk_b24 dX8_takesE_150 h (fun S H locs I h => ?_)
              refine lv_aload_n F.1 F.2.1 dX8_takesE_151 rfl (lv_at hl 1 rfl) ?_
              refine g_V I (run_V (As := []) (rest := []) F I hr_x0 hk_x0 (by decide) kX8_218 (ctX8_go hr_x0 hk_x0 h) ⟨rfl, rfl⟩ ⟨Nat.le_of_ble_eq_true rfl, Nat.le_of_ble_eq_true rfl⟩ rfl hl.1 rfl (Nat.le_of_ble_eq_true rfl) ⟨Nat.le_of_ble_eq_true rfl, Nat.le_of_ble_eq_true rfl⟩ dX8_takesE_152) (fun S H locs I h => ?_)
              refine lv_goto (tgt := 172) F.1 F.2.1 dX8_takesE_155 (by decide) ?_
              exact hj_172 S _ _ _ x0 z23 x3 hr_x0 hk_x0 h I (lv_sub hl [1, 0, 2] rfl)
      have hj_39 : ∀ (S : HC) (H : Heap) (locs : List Loc) (ls : Array Slot) (x0 : Nat) (x1 : Int32) (x2 : Int32) (x3 : Int32), x0 < N → kd x0 = 8 → BX8_takesE_39 ln post (LX8_takesE_28 ln post n28) S x0 x1 x2 x3 → Inv g N ln S s H locs → lv_has ls 5 [(0, .ref (gz g + x0)), (1, .int x1), (2, .int x2), (3, .int x3)] → W p l e rmX8_takesE s m ([.ref (gz g + a0)] : List Value).toArray below meth c H locs 0 0 (MQ below (QI g N ln post) ([.ref (gz g + a0)] : List Value).toArray s 0 0 (gF g)) (F0 m 39 ls []) := by
        intro S H locs ls x0 x1 x2 x3 hr_x0 hk_x0 h I hl
        unfold BX8_takesE_39 at h
        refine lv_iload_n F.1 F.2.1 dX8_takesE_39 rfl (lv_at hl 3 rfl) ?_
        refine r_if_eq (tgt := 180) F dX8_takesE_40 (by decide) h (fun h => ?_) (fun h => ?_)
        · refine lv_aload_n F.1 F.2.1 dX8_takesE_180 rfl (lv_at hl 0 rfl) ?_
          refine r_getI F I hr_x0 hk_x0 fX8_203 rfl dX8_takesE_181 h (fun z25 h => ?_)
          refine lv_iconst (v := 3) F.1 F.2.1 dX8_takesE_184 (by decide) ?_
          refine r_icmp_ne (tgt := 237) F dX8_takesE_185 (by decide) h (fun h => ?_) (fun h => ?_)
          · exact hj_237 S _ _ _ x0 x1 x2 hr_x0 hk_x0 h I (lv_sub hl [0, 1, 2] rfl)
          · refine lv_aload_n F.1 F.2.1 dX8_takesE_188 rfl (lv_at hl 0 rfl) ?_
            refine r_getI F I hr_x0 hk_x0 fX8_209 rfl dX8_takesE_189 h (fun z26 h => ?_)
            refine lv_bipush (v := 41) F.1 F.2.1 dX8_takesE_192 (by decide) ?_
            refine r_icmp_ne (tgt := 237) F dX8_takesE_194 (by decide) h (fun h => ?_) (fun h => ?_)
            · exact hj_237 S _ _ _ x0 x1 x2 hr_x0 hk_x0 h I (lv_sub hl [0, 1, 2] rfl)
            · refine lv_iload_n F.1 F.2.1 dX8_takesE_197 rfl (lv_at hl 1 rfl) ?_
              refine r_if_le (tgt := 237) F dX8_takesE_198 (by decide) h (fun h => ?_) (fun h => ?_)
              · exact hj_237 S _ _ _ x0 x1 x2 hr_x0 hk_x0 h I (lv_sub hl [0, 1, 2] rfl)
              · refine lv_aload_n F.1 F.2.1 dX8_takesE_201 rfl (lv_at hl 0 rfl) ?_
                refine lv_iconst (v := 0) F.1 F.2.1 dX8_takesE_202 (by decide) ?_
                refine g_V I (run_V (As := [.int (0 : Int32)]) (rest := []) F I hr_x0 hk_x0 (by decide) kX8_236 (ctX8_settle hr_x0 hk_x0 h) ⟨rfl, rfl⟩ ⟨Nat.le_of_ble_eq_true rfl, Nat.le_of_ble_eq_true rfl⟩ rfl hl.1 rfl (Nat.le_of_ble_eq_true rfl) ⟨Nat.le_of_ble_eq_true rfl, Nat.le_of_ble_eq_true rfl⟩ dX8_takesE_203) (fun S H locs I h => ?_)
                refine lv_aload_n F.1 F.2.1 dX8_takesE_206 rfl (lv_at hl 0 rfl) ?_
                refine lv_dup F.1 F.2.1 dX8_takesE_207 rfl ?_
                refine r_getI F I hr_x0 hk_x0 fX8_221 rfl dX8_takesE_208 h (fun z27 h => ?_)
                refine lv_iconst (v := 1) F.1 F.2.1 dX8_takesE_211 (by decide) ?_
                refine r_isub F dX8_takesE_212 h (fun z28 h => ?_)
                refine r_putI F I hr_x0 hk_x0 fX8_221 rfl (Or.inl rfl) ⟨rfl, rfl⟩ dX8_takesE_213 h (fun S H locs I h => ?_)
                obtain ⟨z29, e_z29, h⟩ := lt_x h
                refine lv_iinc (v := z29) (lv' := [(1, .int z29), (0, .ref (gz g + x0)), (2, .int x2), (3, .int x3)]) F.1 F.2.1 dX8_takesE_216 hl (k := 1) rfl (by rw [e_z29]; rfl) (by decide) rfl (fun ls hl => ?_)
                refine lv_aload_n F.1 F.2.1 dX8_takesE_219 rfl (lv_at hl 1 rfl) ?_
                refine lv_bipush (v := 6) F.1 F.2.1 dX8_takesE_220 (by decide) ?_
                refine g_V I (run_V (As := [.int (6 : Int32)]) (rest := []) F I hr_x0 hk_x0 (by decide) kX8_236 (ctX8_settle hr_x0 hk_x0 h) ⟨rfl, rfl⟩ ⟨Nat.le_of_ble_eq_true rfl, Nat.le_of_ble_eq_true rfl⟩ rfl hl.1 rfl (Nat.le_of_ble_eq_true rfl) ⟨Nat.le_of_ble_eq_true rfl, Nat.le_of_ble_eq_true rfl⟩ dX8_takesE_222) (fun S H locs I h => ?_)
                refine lv_aload_n F.1 F.2.1 dX8_takesE_225 rfl (lv_at hl 1 rfl) ?_
                refine g_I I (run_V (As := []) (rest := []) F I hr_x0 hk_x0 (by decide) kX8_243 (ctX8_notsOpen hr_x0 hk_x0 h) ⟨rfl, rfl⟩ ⟨Nat.le_of_ble_eq_true rfl, Nat.le_of_ble_eq_true rfl⟩ rfl hl.1 rfl (Nat.le_of_ble_eq_true rfl) ⟨Nat.le_of_ble_eq_true rfl, Nat.le_of_ble_eq_true rfl⟩ dX8_takesE_226) (fun z30 S H locs I h => ?_)
                refine lv_istore_n (lv' := [(2, .int z30), (1, .int z29), (0, .ref (gz g + x0)), (3, .int x3)]) F.1 F.2.1 dX8_takesE_229 rfl hl (by decide) rfl (fun ls hl => ?_)
                refine lv_aload_n F.1 F.2.1 dX8_takesE_230 rfl (lv_at hl 2 rfl) ?_
                refine g_V I (run_V (As := []) (rest := []) F I hr_x0 hk_x0 (by decide) kX8_218 (ctX8_go hr_x0 hk_x0 h) ⟨rfl, rfl⟩ ⟨Nat.le_of_ble_eq_true rfl, Nat.le_of_ble_eq_true rfl⟩ rfl hl.1 rfl (Nat.le_of_ble_eq_true rfl) ⟨Nat.le_of_ble_eq_true rfl, Nat.le_of_ble_eq_true rfl⟩ dX8_takesE_231) (fun S H locs I h => ?_)
                refine lv_goto (tgt := 28) F.1 F.2.1 dX8_takesE_234 (by decide) ?_
                exact hk28 S _ _ _ x0 z29 z30 x3 hr_x0 hk_x0 h I (lv_sub hl [2, 1, 0, 3] rfl)
        · refine lv_aload_n F.1 F.2.1 dX8_takesE_43 rfl (lv_at hl 0 rfl) ?_
          refine r_getI F I hr_x0 hk_x0 fX8_203 rfl dX8_takesE_44 h (fun z31 h => ?_)
          refine lv_iconst (v := 3) F.1 F.2.1 dX8_takesE_47 (by decide) ?_
          refine r_icmp_ne (tgt := 97) F dX8_takesE_48 (by decide) h (fun h => ?_) (fun h => ?_)
          · exact hj_97 S _ _ _ x0 x1 x3 hr_x0 hk_x0 h I (lv_sub hl [0, 1, 3] rfl)
          · refine lv_aload_n F.1 F.2.1 dX8_takesE_51 rfl (lv_at hl 0 rfl) ?_
            refine r_getI F I hr_x0 hk_x0 fX8_209 rfl dX8_takesE_52 h (fun z32 h => ?_)
            refine lv_bipush (v := 33) F.1 F.2.1 dX8_takesE_55 (by decide) ?_
            refine r_icmp_ne (tgt := 97) F dX8_takesE_57 (by decide) h (fun h => ?_) (fun h => ?_)
            · exact hj_97 S _ _ _ x0 x1 x3 hr_x0 hk_x0 h I (lv_sub hl [0, 1, 3] rfl)
            · refine lv_iload_n F.1 F.2.1 dX8_takesE_60 rfl (lv_at hl 2 rfl) ?_
              refine lv_bipush (v := 8) F.1 F.2.1 dX8_takesE_61 (by decide) ?_
              refine r_icmp_ge (tgt := 97) F dX8_takesE_63 (by decide) h (fun h => ?_) (fun h => ?_)
              · exact hj_97 S _ _ _ x0 x1 x3 hr_x0 hk_x0 h I (lv_sub hl [0, 1, 3] rfl)
              · refine lv_aload_n F.1 F.2.1 dX8_takesE_66 rfl (lv_at hl 0 rfl) ?_
                refine r_getN F I hr_x0 hk_x0 fX8_38 (f := 9) rfl (by decide) dX8_takesE_67 h (fun b33 hr_b33 hk_b33 h => ?_)
                refine lv_aload_n F.1 F.2.1 dX8_takesE_70 rfl (lv_at hl 0 rfl) ?_
                refine r_getI F I hr_x0 hk_x0 fX8_221 rfl dX8_takesE_71 h (fun z34 h => ?_)
                refine lv_bipush (v := -10) F.1 F.2.1 dX8_takesE_74 (by decide) ?_
                refine r_ast F I hr_b33 hk_b33 dX8_takesE_76 h (fun S H locs I h => ?_)
                refine lv_aload_n F.1 F.2.1 dX8_takesE_77 rfl (lv_at hl 0 rfl) ?_
                refine lv_dup F.1 F.2.1 dX8_takesE_78 rfl ?_
                refine r_getI F I hr_x0 hk_x0 fX8_221 rfl dX8_takesE_79 h (fun z35 h => ?_)
                refine lv_iconst (v := 1) F.1 F.2.1 dX8_takesE_82 (by decide) ?_
                refine r_iadd F dX8_takesE_83 h (fun z36 h => ?_)
                refine r_putI F I hr_x0 hk_x0 fX8_221 rfl (Or.inl rfl) ⟨rfl, rfl⟩ dX8_takesE_84 h (fun S H locs I h => ?_)
                obtain ⟨z37, e_z37, h⟩ := lt_x h
                refine lv_iinc (v := z37) (lv' := [(2, .int z37), (0, .ref (gz g + x0)), (1, .int x1), (3, .int x3)]) F.1 F.2.1 dX8_takesE_87 hl (k := 2) rfl (by rw [e_z37]; rfl) (by decide) rfl (fun ls hl => ?_)
                refine lv_aload_n F.1 F.2.1 dX8_takesE_90 rfl (lv_at hl 1 rfl) ?_
                refine g_V I (run_V (As := []) (rest := []) F I hr_x0 hk_x0 (by decide) kX8_218 (ctX8_go hr_x0 hk_x0 h) ⟨rfl, rfl⟩ ⟨Nat.le_of_ble_eq_true rfl, Nat.le_of_ble_eq_true rfl⟩ rfl hl.1 rfl (Nat.le_of_ble_eq_true rfl) ⟨Nat.le_of_ble_eq_true rfl, Nat.le_of_ble_eq_true rfl⟩ dX8_takesE_91) (fun S H locs I h => ?_)
                refine lv_goto (tgt := 172) F.1 F.2.1 dX8_takesE_94 (by decide) ?_
                exact hj_172 S _ _ _ x0 x1 x3 hr_x0 hk_x0 h I (lv_sub hl [1, 2, 3] rfl)
      intro S H locs ls x0 x1 x2 x3 hr_x0 hk_x0 h I hl
      rw [LX8_takesE_28] at h
      refine lv_iload_n F.1 F.2.1 dX8_takesE_28 rfl (lv_at hl 3 rfl) ?_
      refine r_if_ne (tgt := 39) F dX8_takesE_29 (by decide) h (fun h => ?_) (fun h => ?_)
      · exact hj_39 S _ _ _ x0 x1 x2 x3 hr_x0 hk_x0 h I (lv_sub hl [0, 1, 2, 3] rfl)
      · refine lv_aload_n F.1 F.2.1 dX8_takesE_32 rfl (lv_at hl 0 rfl) ?_
        refine r_getI F I hr_x0 hk_x0 fX8_203 rfl dX8_takesE_33 h (fun z38 h => ?_)
        refine r_if_eq (tgt := 345) F dX8_takesE_36 (by decide) h (fun h => ?_) (fun h => ?_)
        · refine lv_aload_n F.1 F.2.1 dX8_takesE_345 rfl (lv_at hl 0 rfl) ?_
          refine lv_iconst (v := 0) F.1 F.2.1 dX8_takesE_346 (by decide) ?_
          refine g_V I (run_V (As := [.int (0 : Int32)]) (rest := []) F I hr_x0 hk_x0 (by decide) kX8_236 (ctX8_settle hr_x0 hk_x0 h) ⟨rfl, rfl⟩ ⟨Nat.le_of_ble_eq_true rfl, Nat.le_of_ble_eq_true rfl⟩ rfl hl.1 rfl (Nat.le_of_ble_eq_true rfl) ⟨Nat.le_of_ble_eq_true rfl, Nat.le_of_ble_eq_true rfl⟩ dX8_takesE_347) (fun S H locs I h => ?_)
          refine lv_iload_n F.1 F.2.1 dX8_takesE_350 rfl (lv_at hl 1 rfl) ?_
          refine r_if_ne (tgt := 358) F dX8_takesE_351 (by decide) h (fun h => ?_) (fun h => ?_)
          · refine lv_iconst (v := 0) F.1 F.2.1 dX8_takesE_358 (by decide) ?_
            exact r_zreturn F I ⟨hr.1, hr.2.1, trivial⟩ h dX8_takesE_359
          · refine lv_iconst (v := 1) F.1 F.2.1 dX8_takesE_354 (by decide) ?_
            refine lv_goto (tgt := 359) F.1 F.2.1 dX8_takesE_355 (by decide) ?_
            exact r_zreturn F I ⟨hr.1, hr.2.1, trivial⟩ h dX8_takesE_359
        · exact hj_39 S _ _ _ x0 x1 x2 x3 hr_x0 hk_x0 h I (lv_sub hl [0, 1, 2, 3] rfl)
  refine lv_iconst (v := 0) F.1 F.2.1 dX8_takesE_0 (by decide) ?_
  refine lv_istore_n (lv' := [(1, .int (0 : Int32)), (0, .ref (gz g + a0))]) F.1 F.2.1 dX8_takesE_1 rfl hl (by decide) rfl (fun ls hl => ?_)
  refine lv_iconst (v := 0) F.1 F.2.1 dX8_takesE_2 (by decide) ?_
  refine lv_istore_n (lv' := [(2, .int (0 : Int32)), (1, .int (0 : Int32)), (0, .ref (gz g + a0))]) F.1 F.2.1 dX8_takesE_3 rfl hl (by decide) rfl (fun ls hl => ?_)
  refine lv_iconst (v := 1) F.1 F.2.1 dX8_takesE_4 (by decide) ?_
  refine lv_istore_n (lv' := [(3, .int (1 : Int32)), (2, .int (0 : Int32)), (1, .int (0 : Int32)), (0, .ref (gz g + a0))]) F.1 F.2.1 dX8_takesE_5 rfl hl (by decide) rfl (fun ls hl => ?_)
  refine lv_aload_n F.1 F.2.1 dX8_takesE_6 rfl (lv_at hl 3 rfl) ?_
  refine lv_iconst (v := 0) F.1 F.2.1 dX8_takesE_7 (by decide) ?_
  refine r_putI F I hr_a0 hk_a0 fX8_227 rfl (Or.inl rfl) ⟨rfl, rfl⟩ dX8_takesE_8 h (fun S H locs I h => ?_)
  refine lv_aload_n F.1 F.2.1 dX8_takesE_11 rfl (lv_at hl 3 rfl) ?_
  refine lv_iconst (v := 0) F.1 F.2.1 dX8_takesE_12 (by decide) ?_
  refine r_putI F I hr_a0 hk_a0 fX8_233 rfl (Or.inl rfl) ⟨rfl, rfl⟩ dX8_takesE_13 h (fun S H locs I h => ?_)
  refine lv_aload_n F.1 F.2.1 dX8_takesE_16 rfl (lv_at hl 3 rfl) ?_
  refine lv_iconst (v := 0) F.1 F.2.1 dX8_takesE_17 (by decide) ?_
  refine r_putI F I hr_a0 hk_a0 fX8_221 rfl (Or.inl rfl) ⟨rfl, rfl⟩ dX8_takesE_18 h (fun S H locs I h => ?_)
  refine lv_aload_n F.1 F.2.1 dX8_takesE_21 rfl (lv_at hl 3 rfl) ?_
  refine r_getN F I hr_a0 hk_a0 fX8_41 (f := 11) rfl (by decide) dX8_takesE_22 h (fun b39 hr_b39 hk_b39 h => ?_)
  refine lv_iconst (v := 0) F.1 F.2.1 dX8_takesE_25 (by decide) ?_
  refine lv_iconst (v := 0) F.1 F.2.1 dX8_takesE_26 (by decide) ?_
  refine r_zast F I hr_b39 hk_b39 dX8_takesE_27 h (fun S H locs I h => ?_)
  obtain ⟨n28, h⟩ := h
  exact hl_28 n28 S _ _ _ a0 (0 : Int32) (0 : Int32) (1 : Int32) hr_a0 hk_a0 h I (lv_sub hl [3, 2, 1, 0] rfl)
theorem bdX8_text_0 : ∀ q ∈ ([(0, .aload_n 0, 1), (1, .iconst 0, 1), (2, .putfield 194, 3), (5, .aload_n 0, 1), (6, .iconst (-1), 1), (7, .putfield 200, 3), (10, .aload_n 0, 1), (11, .invokevirtual 218, 3), (14, .aload_n 0, 1), (15, .invokevirtual 249, 3), (18, .ifCond .eq 14, 3), (21, .aload_n 0, 1), (22, .invokevirtual 252, 3), (25, .ifCond .eq 7, 3), (28, .iconst 1, 1), (29, .goto 4, 3), (32, .iconst 0, 1), (33, .istore_n 1, 1), (34, .aload_n 0, 1), (35, .iconst 0, 1), (36, .putfield 190, 3), (39, .iload_n 1, 1), (40, .ifCond .ne 11, 3), (43, .bipush (-100), 2), (45, .aload_n 0, 1), (46, .getfield 197, 3), (49, .isub, 1), (50, .ireturn, 1), (51, .aload_n 0, 1), (52, .getfield 9, 3), (55, .iconst 4, 1), (56, .iaload, 1), (57, .bipush 14, 2), (59, .if_icmp .ne 6, 3), (62, .ldc 99, 2), (64, .ireturn, 1), (65, .aload_n 0, 1), (66, .getfield 9, 3), (69, .iconst 4, 1), (70, .iaload, 1)] : List (Nat × Jvm.ClassFile.Instr × Nat)), decode cX8_text q.1 = .ok q.2 := chk_ok _ 0 _ rfl (by decide +kernel)
theorem dX8_text_0 : decode cX8_text 0 = .ok (.aload_n 0, 1) := bdX8_text_0 (0, .aload_n 0, 1) (List.mem_of_getElem? (i := 0) rfl)
theorem dX8_text_1 : decode cX8_text 1 = .ok (.iconst 0, 1) := bdX8_text_0 (1, .iconst 0, 1) (List.mem_of_getElem? (i := 1) rfl)
theorem dX8_text_2 : decode cX8_text 2 = .ok (.putfield 194, 3) := bdX8_text_0 (2, .putfield 194, 3) (List.mem_of_getElem? (i := 2) rfl)
theorem dX8_text_5 : decode cX8_text 5 = .ok (.aload_n 0, 1) := bdX8_text_0 (5, .aload_n 0, 1) (List.mem_of_getElem? (i := 3) rfl)
theorem dX8_text_6 : decode cX8_text 6 = .ok (.iconst (-1), 1) := bdX8_text_0 (6, .iconst (-1), 1) (List.mem_of_getElem? (i := 4) rfl)
theorem dX8_text_7 : decode cX8_text 7 = .ok (.putfield 200, 3) := bdX8_text_0 (7, .putfield 200, 3) (List.mem_of_getElem? (i := 5) rfl)
theorem dX8_text_10 : decode cX8_text 10 = .ok (.aload_n 0, 1) := bdX8_text_0 (10, .aload_n 0, 1) (List.mem_of_getElem? (i := 6) rfl)
theorem dX8_text_11 : decode cX8_text 11 = .ok (.invokevirtual 218, 3) := bdX8_text_0 (11, .invokevirtual 218, 3) (List.mem_of_getElem? (i := 7) rfl)
theorem dX8_text_14 : decode cX8_text 14 = .ok (.aload_n 0, 1) := bdX8_text_0 (14, .aload_n 0, 1) (List.mem_of_getElem? (i := 8) rfl)
theorem dX8_text_15 : decode cX8_text 15 = .ok (.invokevirtual 249, 3) := bdX8_text_0 (15, .invokevirtual 249, 3) (List.mem_of_getElem? (i := 9) rfl)
theorem dX8_text_18 : decode cX8_text 18 = .ok (.ifCond .eq 14, 3) := bdX8_text_0 (18, .ifCond .eq 14, 3) (List.mem_of_getElem? (i := 10) rfl)
theorem dX8_text_21 : decode cX8_text 21 = .ok (.aload_n 0, 1) := bdX8_text_0 (21, .aload_n 0, 1) (List.mem_of_getElem? (i := 11) rfl)
theorem dX8_text_22 : decode cX8_text 22 = .ok (.invokevirtual 252, 3) := bdX8_text_0 (22, .invokevirtual 252, 3) (List.mem_of_getElem? (i := 12) rfl)
theorem dX8_text_25 : decode cX8_text 25 = .ok (.ifCond .eq 7, 3) := bdX8_text_0 (25, .ifCond .eq 7, 3) (List.mem_of_getElem? (i := 13) rfl)
theorem dX8_text_28 : decode cX8_text 28 = .ok (.iconst 1, 1) := bdX8_text_0 (28, .iconst 1, 1) (List.mem_of_getElem? (i := 14) rfl)
theorem dX8_text_29 : decode cX8_text 29 = .ok (.goto 4, 3) := bdX8_text_0 (29, .goto 4, 3) (List.mem_of_getElem? (i := 15) rfl)
theorem dX8_text_32 : decode cX8_text 32 = .ok (.iconst 0, 1) := bdX8_text_0 (32, .iconst 0, 1) (List.mem_of_getElem? (i := 16) rfl)
theorem dX8_text_33 : decode cX8_text 33 = .ok (.istore_n 1, 1) := bdX8_text_0 (33, .istore_n 1, 1) (List.mem_of_getElem? (i := 17) rfl)
theorem dX8_text_34 : decode cX8_text 34 = .ok (.aload_n 0, 1) := bdX8_text_0 (34, .aload_n 0, 1) (List.mem_of_getElem? (i := 18) rfl)
theorem dX8_text_35 : decode cX8_text 35 = .ok (.iconst 0, 1) := bdX8_text_0 (35, .iconst 0, 1) (List.mem_of_getElem? (i := 19) rfl)
theorem dX8_text_36 : decode cX8_text 36 = .ok (.putfield 190, 3) := bdX8_text_0 (36, .putfield 190, 3) (List.mem_of_getElem? (i := 20) rfl)
theorem dX8_text_39 : decode cX8_text 39 = .ok (.iload_n 1, 1) := bdX8_text_0 (39, .iload_n 1, 1) (List.mem_of_getElem? (i := 21) rfl)
theorem dX8_text_40 : decode cX8_text 40 = .ok (.ifCond .ne 11, 3) := bdX8_text_0 (40, .ifCond .ne 11, 3) (List.mem_of_getElem? (i := 22) rfl)
theorem dX8_text_43 : decode cX8_text 43 = .ok (.bipush (-100), 2) := bdX8_text_0 (43, .bipush (-100), 2) (List.mem_of_getElem? (i := 23) rfl)
theorem dX8_text_45 : decode cX8_text 45 = .ok (.aload_n 0, 1) := bdX8_text_0 (45, .aload_n 0, 1) (List.mem_of_getElem? (i := 24) rfl)
theorem dX8_text_46 : decode cX8_text 46 = .ok (.getfield 197, 3) := bdX8_text_0 (46, .getfield 197, 3) (List.mem_of_getElem? (i := 25) rfl)
theorem dX8_text_49 : decode cX8_text 49 = .ok (.isub, 1) := bdX8_text_0 (49, .isub, 1) (List.mem_of_getElem? (i := 26) rfl)
theorem dX8_text_50 : decode cX8_text 50 = .ok (.ireturn, 1) := bdX8_text_0 (50, .ireturn, 1) (List.mem_of_getElem? (i := 27) rfl)
theorem dX8_text_51 : decode cX8_text 51 = .ok (.aload_n 0, 1) := bdX8_text_0 (51, .aload_n 0, 1) (List.mem_of_getElem? (i := 28) rfl)
theorem dX8_text_52 : decode cX8_text 52 = .ok (.getfield 9, 3) := bdX8_text_0 (52, .getfield 9, 3) (List.mem_of_getElem? (i := 29) rfl)
theorem dX8_text_55 : decode cX8_text 55 = .ok (.iconst 4, 1) := bdX8_text_0 (55, .iconst 4, 1) (List.mem_of_getElem? (i := 30) rfl)
theorem dX8_text_56 : decode cX8_text 56 = .ok (.iaload, 1) := bdX8_text_0 (56, .iaload, 1) (List.mem_of_getElem? (i := 31) rfl)
theorem dX8_text_57 : decode cX8_text 57 = .ok (.bipush 14, 2) := bdX8_text_0 (57, .bipush 14, 2) (List.mem_of_getElem? (i := 32) rfl)
theorem dX8_text_59 : decode cX8_text 59 = .ok (.if_icmp .ne 6, 3) := bdX8_text_0 (59, .if_icmp .ne 6, 3) (List.mem_of_getElem? (i := 33) rfl)
theorem dX8_text_62 : decode cX8_text 62 = .ok (.ldc 99, 2) := bdX8_text_0 (62, .ldc 99, 2) (List.mem_of_getElem? (i := 34) rfl)
theorem dX8_text_64 : decode cX8_text 64 = .ok (.ireturn, 1) := bdX8_text_0 (64, .ireturn, 1) (List.mem_of_getElem? (i := 35) rfl)
theorem dX8_text_65 : decode cX8_text 65 = .ok (.aload_n 0, 1) := bdX8_text_0 (65, .aload_n 0, 1) (List.mem_of_getElem? (i := 36) rfl)
theorem dX8_text_66 : decode cX8_text 66 = .ok (.getfield 9, 3) := bdX8_text_0 (66, .getfield 9, 3) (List.mem_of_getElem? (i := 37) rfl)
theorem dX8_text_69 : decode cX8_text 69 = .ok (.iconst 4, 1) := bdX8_text_0 (69, .iconst 4, 1) (List.mem_of_getElem? (i := 38) rfl)
theorem dX8_text_70 : decode cX8_text 70 = .ok (.iaload, 1) := bdX8_text_0 (70, .iaload, 1) (List.mem_of_getElem? (i := 39) rfl)
theorem bdX8_text_71 : ∀ q ∈ ([(71, .istore_n 2, 1), (72, .aload_n 0, 1), (73, .getfield 9, 3), (76, .bipush 89, 2), (78, .iconst 2, 1), (79, .iload_n 2, 1), (80, .imul, 1), (81, .iadd, 1), (82, .sipush 1000, 3), (85, .aload_n 0, 1), (86, .getfield 215, 3), (89, .imul, 1), (90, .aload_n 0, 1), (91, .getfield 227, 3), (94, .iadd, 1), (95, .iastore, 1), (96, .aload_n 0, 1), (97, .getfield 9, 3), (100, .bipush 89, 2), (102, .iconst 2, 1), (103, .iload_n 2, 1), (104, .imul, 1), (105, .iadd, 1), (106, .iconst 1, 1), (107, .iadd, 1), (108, .aload_n 0, 1), (109, .getfield 233, 3), (112, .iastore, 1), (113, .iconst 0, 1), (114, .istore_n 3, 1), (115, .iload_n 3, 1), (116, .aload_n 0, 1), (117, .getfield 227, 3), (120, .if_icmp .ge 29, 3), (123, .aload_n 0, 1), (124, .getfield 9, 3), (127, .bipush 117, 2), (129, .bipush 96, 2), (131, .iload_n 2, 1), (132, .imul, 1)] : List (Nat × Jvm.ClassFile.Instr × Nat)), decode cX8_text q.1 = .ok q.2 := chk_ok _ 71 _ rfl (by decide +kernel)
theorem dX8_text_71 : decode cX8_text 71 = .ok (.istore_n 2, 1) := bdX8_text_71 (71, .istore_n 2, 1) (List.mem_of_getElem? (i := 0) rfl)
theorem dX8_text_72 : decode cX8_text 72 = .ok (.aload_n 0, 1) := bdX8_text_71 (72, .aload_n 0, 1) (List.mem_of_getElem? (i := 1) rfl)
theorem dX8_text_73 : decode cX8_text 73 = .ok (.getfield 9, 3) := bdX8_text_71 (73, .getfield 9, 3) (List.mem_of_getElem? (i := 2) rfl)
theorem dX8_text_76 : decode cX8_text 76 = .ok (.bipush 89, 2) := bdX8_text_71 (76, .bipush 89, 2) (List.mem_of_getElem? (i := 3) rfl)
theorem dX8_text_78 : decode cX8_text 78 = .ok (.iconst 2, 1) := bdX8_text_71 (78, .iconst 2, 1) (List.mem_of_getElem? (i := 4) rfl)
theorem dX8_text_79 : decode cX8_text 79 = .ok (.iload_n 2, 1) := bdX8_text_71 (79, .iload_n 2, 1) (List.mem_of_getElem? (i := 5) rfl)
theorem dX8_text_80 : decode cX8_text 80 = .ok (.imul, 1) := bdX8_text_71 (80, .imul, 1) (List.mem_of_getElem? (i := 6) rfl)
theorem dX8_text_81 : decode cX8_text 81 = .ok (.iadd, 1) := bdX8_text_71 (81, .iadd, 1) (List.mem_of_getElem? (i := 7) rfl)
theorem dX8_text_82 : decode cX8_text 82 = .ok (.sipush 1000, 3) := bdX8_text_71 (82, .sipush 1000, 3) (List.mem_of_getElem? (i := 8) rfl)
theorem dX8_text_85 : decode cX8_text 85 = .ok (.aload_n 0, 1) := bdX8_text_71 (85, .aload_n 0, 1) (List.mem_of_getElem? (i := 9) rfl)
theorem dX8_text_86 : decode cX8_text 86 = .ok (.getfield 215, 3) := bdX8_text_71 (86, .getfield 215, 3) (List.mem_of_getElem? (i := 10) rfl)
theorem dX8_text_89 : decode cX8_text 89 = .ok (.imul, 1) := bdX8_text_71 (89, .imul, 1) (List.mem_of_getElem? (i := 11) rfl)
theorem dX8_text_90 : decode cX8_text 90 = .ok (.aload_n 0, 1) := bdX8_text_71 (90, .aload_n 0, 1) (List.mem_of_getElem? (i := 12) rfl)
theorem dX8_text_91 : decode cX8_text 91 = .ok (.getfield 227, 3) := bdX8_text_71 (91, .getfield 227, 3) (List.mem_of_getElem? (i := 13) rfl)
theorem dX8_text_94 : decode cX8_text 94 = .ok (.iadd, 1) := bdX8_text_71 (94, .iadd, 1) (List.mem_of_getElem? (i := 14) rfl)
theorem dX8_text_95 : decode cX8_text 95 = .ok (.iastore, 1) := bdX8_text_71 (95, .iastore, 1) (List.mem_of_getElem? (i := 15) rfl)
theorem dX8_text_96 : decode cX8_text 96 = .ok (.aload_n 0, 1) := bdX8_text_71 (96, .aload_n 0, 1) (List.mem_of_getElem? (i := 16) rfl)
theorem dX8_text_97 : decode cX8_text 97 = .ok (.getfield 9, 3) := bdX8_text_71 (97, .getfield 9, 3) (List.mem_of_getElem? (i := 17) rfl)
theorem dX8_text_100 : decode cX8_text 100 = .ok (.bipush 89, 2) := bdX8_text_71 (100, .bipush 89, 2) (List.mem_of_getElem? (i := 18) rfl)
theorem dX8_text_102 : decode cX8_text 102 = .ok (.iconst 2, 1) := bdX8_text_71 (102, .iconst 2, 1) (List.mem_of_getElem? (i := 19) rfl)
theorem dX8_text_103 : decode cX8_text 103 = .ok (.iload_n 2, 1) := bdX8_text_71 (103, .iload_n 2, 1) (List.mem_of_getElem? (i := 20) rfl)
theorem dX8_text_104 : decode cX8_text 104 = .ok (.imul, 1) := bdX8_text_71 (104, .imul, 1) (List.mem_of_getElem? (i := 21) rfl)
theorem dX8_text_105 : decode cX8_text 105 = .ok (.iadd, 1) := bdX8_text_71 (105, .iadd, 1) (List.mem_of_getElem? (i := 22) rfl)
theorem dX8_text_106 : decode cX8_text 106 = .ok (.iconst 1, 1) := bdX8_text_71 (106, .iconst 1, 1) (List.mem_of_getElem? (i := 23) rfl)
theorem dX8_text_107 : decode cX8_text 107 = .ok (.iadd, 1) := bdX8_text_71 (107, .iadd, 1) (List.mem_of_getElem? (i := 24) rfl)
theorem dX8_text_108 : decode cX8_text 108 = .ok (.aload_n 0, 1) := bdX8_text_71 (108, .aload_n 0, 1) (List.mem_of_getElem? (i := 25) rfl)
theorem dX8_text_109 : decode cX8_text 109 = .ok (.getfield 233, 3) := bdX8_text_71 (109, .getfield 233, 3) (List.mem_of_getElem? (i := 26) rfl)
theorem dX8_text_112 : decode cX8_text 112 = .ok (.iastore, 1) := bdX8_text_71 (112, .iastore, 1) (List.mem_of_getElem? (i := 27) rfl)
theorem dX8_text_113 : decode cX8_text 113 = .ok (.iconst 0, 1) := bdX8_text_71 (113, .iconst 0, 1) (List.mem_of_getElem? (i := 28) rfl)
theorem dX8_text_114 : decode cX8_text 114 = .ok (.istore_n 3, 1) := bdX8_text_71 (114, .istore_n 3, 1) (List.mem_of_getElem? (i := 29) rfl)
theorem dX8_text_115 : decode cX8_text 115 = .ok (.iload_n 3, 1) := bdX8_text_71 (115, .iload_n 3, 1) (List.mem_of_getElem? (i := 30) rfl)
theorem dX8_text_116 : decode cX8_text 116 = .ok (.aload_n 0, 1) := bdX8_text_71 (116, .aload_n 0, 1) (List.mem_of_getElem? (i := 31) rfl)
theorem dX8_text_117 : decode cX8_text 117 = .ok (.getfield 227, 3) := bdX8_text_71 (117, .getfield 227, 3) (List.mem_of_getElem? (i := 32) rfl)
theorem dX8_text_120 : decode cX8_text 120 = .ok (.if_icmp .ge 29, 3) := bdX8_text_71 (120, .if_icmp .ge 29, 3) (List.mem_of_getElem? (i := 33) rfl)
theorem dX8_text_123 : decode cX8_text 123 = .ok (.aload_n 0, 1) := bdX8_text_71 (123, .aload_n 0, 1) (List.mem_of_getElem? (i := 34) rfl)
theorem dX8_text_124 : decode cX8_text 124 = .ok (.getfield 9, 3) := bdX8_text_71 (124, .getfield 9, 3) (List.mem_of_getElem? (i := 35) rfl)
theorem dX8_text_127 : decode cX8_text 127 = .ok (.bipush 117, 2) := bdX8_text_71 (127, .bipush 117, 2) (List.mem_of_getElem? (i := 36) rfl)
theorem dX8_text_129 : decode cX8_text 129 = .ok (.bipush 96, 2) := bdX8_text_71 (129, .bipush 96, 2) (List.mem_of_getElem? (i := 37) rfl)
theorem dX8_text_131 : decode cX8_text 131 = .ok (.iload_n 2, 1) := bdX8_text_71 (131, .iload_n 2, 1) (List.mem_of_getElem? (i := 38) rfl)
theorem dX8_text_132 : decode cX8_text 132 = .ok (.imul, 1) := bdX8_text_71 (132, .imul, 1) (List.mem_of_getElem? (i := 39) rfl)
theorem bdX8_text_133 : ∀ q ∈ ([(133, .iadd, 1), (134, .iload_n 3, 1), (135, .iadd, 1), (136, .aload_n 0, 1), (137, .getfield 35, 3), (140, .iload_n 3, 1), (141, .iaload, 1), (142, .iastore, 1), (143, .iinc 3 1, 3), (146, .goto (-31), 3), (149, .aload_n 0, 1), (150, .getfield 9, 3), (153, .iconst 4, 1), (155, .iaload, 1), (156, .iconst 1, 1), (157, .iadd, 1), (158, .iastore, 1), (159, .iload_n 2, 1), (160, .ireturn, 1)] : List (Nat × Jvm.ClassFile.Instr × Nat)), decode cX8_text q.1 = .ok q.2 := chk_ok _ 133 _ rfl (by decide +kernel)
theorem dX8_text_133 : decode cX8_text 133 = .ok (.iadd, 1) := bdX8_text_133 (133, .iadd, 1) (List.mem_of_getElem? (i := 0) rfl)
theorem dX8_text_134 : decode cX8_text 134 = .ok (.iload_n 3, 1) := bdX8_text_133 (134, .iload_n 3, 1) (List.mem_of_getElem? (i := 1) rfl)
theorem dX8_text_135 : decode cX8_text 135 = .ok (.iadd, 1) := bdX8_text_133 (135, .iadd, 1) (List.mem_of_getElem? (i := 2) rfl)
theorem dX8_text_136 : decode cX8_text 136 = .ok (.aload_n 0, 1) := bdX8_text_133 (136, .aload_n 0, 1) (List.mem_of_getElem? (i := 3) rfl)
theorem dX8_text_137 : decode cX8_text 137 = .ok (.getfield 35, 3) := bdX8_text_133 (137, .getfield 35, 3) (List.mem_of_getElem? (i := 4) rfl)
theorem dX8_text_140 : decode cX8_text 140 = .ok (.iload_n 3, 1) := bdX8_text_133 (140, .iload_n 3, 1) (List.mem_of_getElem? (i := 5) rfl)
theorem dX8_text_141 : decode cX8_text 141 = .ok (.iaload, 1) := bdX8_text_133 (141, .iaload, 1) (List.mem_of_getElem? (i := 6) rfl)
theorem dX8_text_142 : decode cX8_text 142 = .ok (.iastore, 1) := bdX8_text_133 (142, .iastore, 1) (List.mem_of_getElem? (i := 7) rfl)
theorem dX8_text_143 : decode cX8_text 143 = .ok (.iinc 3 1, 3) := bdX8_text_133 (143, .iinc 3 1, 3) (List.mem_of_getElem? (i := 8) rfl)
theorem dX8_text_146 : decode cX8_text 146 = .ok (.goto (-31), 3) := bdX8_text_133 (146, .goto (-31), 3) (List.mem_of_getElem? (i := 9) rfl)
theorem dX8_text_149 : decode cX8_text 149 = .ok (.aload_n 0, 1) := bdX8_text_133 (149, .aload_n 0, 1) (List.mem_of_getElem? (i := 10) rfl)
theorem dX8_text_150 : decode cX8_text 150 = .ok (.getfield 9, 3) := bdX8_text_133 (150, .getfield 9, 3) (List.mem_of_getElem? (i := 11) rfl)
theorem dX8_text_153 : decode cX8_text 153 = .ok (.iconst 4, 1) := bdX8_text_133 (153, .iconst 4, 1) (List.mem_of_getElem? (i := 12) rfl)
theorem dX8_text_155 : decode cX8_text 155 = .ok (.iaload, 1) := bdX8_text_133 (155, .iaload, 1) (List.mem_of_getElem? (i := 13) rfl)
theorem dX8_text_156 : decode cX8_text 156 = .ok (.iconst 1, 1) := bdX8_text_133 (156, .iconst 1, 1) (List.mem_of_getElem? (i := 14) rfl)
theorem dX8_text_157 : decode cX8_text 157 = .ok (.iadd, 1) := bdX8_text_133 (157, .iadd, 1) (List.mem_of_getElem? (i := 15) rfl)
theorem dX8_text_158 : decode cX8_text 158 = .ok (.iastore, 1) := bdX8_text_133 (158, .iastore, 1) (List.mem_of_getElem? (i := 16) rfl)
theorem dX8_text_159 : decode cX8_text 159 = .ok (.iload_n 2, 1) := bdX8_text_133 (159, .iload_n 2, 1) (List.mem_of_getElem? (i := 17) rfl)
theorem dX8_text_160 : decode cX8_text 160 = .ok (.ireturn, 1) := bdX8_text_133 (160, .ireturn, 1) (List.mem_of_getElem? (i := 18) rfl)
theorem dX8_text_154 : decode cX8_text 154 = .ok (.dup2, 1) := by decide +kernel
theorem kX8_249 : mthV RX8 249 8 yX8_takesKey prog_10_method_59_code 5 (Option.some Jvm.ClassFile.FieldType.boolean) 0 := ⟨⟨⟨tw_1285, tw_67, tw_1288⟩, rfl, by decide +kernel⟩, tw_1287, tw_51, rfl⟩
theorem kX8_252 : mthV RX8 252 8 yX8_takesE prog_10_method_65_code 5 (Option.some Jvm.ClassFile.FieldType.boolean) 0 := ⟨⟨⟨tw_1289, tw_67, tw_1292⟩, rfl, by decide +kernel⟩, tw_1291, tw_52, rfl⟩
def LX8_text_115 (ln : Nat → Nat) (post : Int32 → HC → Prop) : Nat → HC → Nat → Int32 → Int32 → Prop
  | 0 => fun _ _ _ _ => False
  | n115 + 1 => fun S x0 x2 x3 => lt_ (hI S x0 17) fun z1 => if z1 ≤ x3 then (dn_ (hR S x0 0) fun b2 => al_ (ln b2) (4 : Int32) (hI S b2) fun z3 => lt_ (z3 + (1 : Int32)) fun z4 => as_ (ln b2) (4 : Int32) (fun j => sI S b2 j z4) fun S => post x2 S) else (dn_ (hR S x0 0) fun b5 => lt_ ((96 : Int32) * x2) fun z6 => lt_ ((117 : Int32) + z6) fun z7 => lt_ (z7 + x3) fun z8 => dn_ (hR S x0 16) fun b9 => al_ (ln b9) x3 (hI S b9) fun z10 => as_ (ln b5) z8 (fun j => sI S b5 j z10) fun S => lt_ (x3 + (1 : Int32)) fun z11 => (LX8_text_115 ln post n115) S x0 x2 z11)
def BX8_text_33 (ln : Nat → Nat) (post : Int32 → HC → Prop) (S : HC) (x0 : Nat) (t0 : Int32) : Prop := lt_ (sI S x0 7 (0 : Int32)) fun S => if t0 = 0 then (lt_ (hI S x0 9) fun z28 => lt_ ((-100 : Int32) - z28) fun z29 => post z29 S) else (dn_ (hR S x0 0) fun b12 => al_ (ln b12) (4 : Int32) (hI S b12) fun z13 => if z13 = (14 : Int32) then (post (-1000000003 : Int32) S) else (dn_ (hR S x0 0) fun b14 => al_ (ln b14) (4 : Int32) (hI S b14) fun z15 => dn_ (hR S x0 0) fun b16 => lt_ ((2 : Int32) * z15) fun z17 => lt_ ((89 : Int32) + z17) fun z18 => lt_ (hI S x0 13) fun z19 => lt_ ((1000 : Int32) * z19) fun z20 => lt_ (hI S x0 17) fun z21 => lt_ (z20 + z21) fun z22 => as_ (ln b16) z18 (fun j => sI S b16 j z22) fun S => dn_ (hR S x0 0) fun b23 => lt_ ((2 : Int32) * z15) fun z24 => lt_ ((89 : Int32) + z24) fun z25 => lt_ (z25 + (1 : Int32)) fun z26 => lt_ (hI S x0 18) fun z27 => as_ (ln b23) z26 (fun j => sI S b23 j z27) fun S => ∃ n115, LX8_text_115 ln post n115 S x0 z15 (0 : Int32)))
def BX8_text_32 (ln : Nat → Nat) (post : Int32 → HC → Prop) (S : HC) (x0 : Nat) : Prop := BX8_text_33 ln post S x0 (0 : Int32)
def wpX8_text (ln : Nat → Nat) (S : HC) (a0 : Nat) (post : Int32 → HC → Prop) : Prop := lt_ (sI S a0 8 (0 : Int32)) fun S => lt_ (sI S a0 12 (-1 : Int32)) fun S => wpX8_go ln S a0 fun S => wpX8_takesKey ln S a0 fun z30 S => if z30 = 0 then (BX8_text_32 ln post S a0) else (wpX8_takesE ln S a0 fun z31 S => if z31 = 0 then (BX8_text_32 ln post S a0) else (BX8_text_33 ln post S a0 (1 : Int32)))
abbrev rmX8_text : Room := { frames := 4, cells := 0, slots := 0, locals := 87 }
set_option maxHeartbeats 4000000 in
set_option maxRecDepth 100000 in
theorem ctX8_text {l : Launch} {g : GX} {N : Nat} {ln : Nat → Nat} {S : HC} {a0 : Nat} {post : Int32 → HC → Prop} (hr_a0 : a0 < N) (hk_a0 : kd a0 = 8) (h : wpX8_text ln S a0 post) : Met l yX8_text (Cond.code yX8_text prog_10_method_67_code 4 (Option.some Jvm.ClassFile.FieldType.int) :: gtbl) rmX8_text (va_Pc [.ref (gz g + a0)] (AtP g N ln S)) (QI g N ln post) 0 0 (gF g) := by
  refine m_of (by decide) (Nat.le_of_ble_eq_true rfl) ?_
  intro p e s m below meth c ls F hr I hl
  have hl : lv_has ls 4 [(0, .ref (gz g + a0))] := hl
  unfold wpX8_text at h
  have hl_115 : ∀ n115 : Nat, ∀ (S : HC) (H : Heap) (locs : List Loc) (ls : Array Slot) (x0 : Nat) (x2 : Int32) (x3 : Int32), x0 < N → kd x0 = 8 → LX8_text_115 ln post n115 S x0 x2 x3 → Inv g N ln S s H locs → lv_has ls 4 [(0, .ref (gz g + x0)), (2, .int x2), (3, .int x3)] → W p l e rmX8_text s m ([.ref (gz g + a0)] : List Value).toArray below meth c H locs 0 0 (MQ below (QI g N ln post) ([.ref (gz g + a0)] : List Value).toArray s 0 0 (gF g)) (F0 m 115 ls []) := by
    intro n115
    induction n115 with
    | zero =>
      intro S H locs ls x0 x2 x3 hr_x0 hk_x0 h I hl
      exact h.elim
    | succ n115 ih =>
      have hk115 := ih
      intro S H locs ls x0 x2 x3 hr_x0 hk_x0 h I hl
      rw [LX8_text_115] at h
      refine lv_iload_n F.1 F.2.1 dX8_text_115 rfl (lv_at hl 2 rfl) ?_
      refine lv_aload_n F.1 F.2.1 dX8_text_116 rfl (lv_at hl 0 rfl) ?_
      refine r_getI F I hr_x0 hk_x0 fX8_227 rfl dX8_text_117 h (fun z1 h => ?_)
      refine r_icmp_ge (tgt := 149) F dX8_text_120 (by decide) h (fun h => ?_) (fun h => ?_)
      · refine lv_aload_n F.1 F.2.1 dX8_text_149 rfl (lv_at hl 0 rfl) ?_
        refine r_getN F I hr_x0 hk_x0 fX8_9 (f := 9) rfl (by decide) dX8_text_150 h (fun b2 hr_b2 hk_b2 h => ?_)
        refine lv_iconst (v := 4) F.1 F.2.1 dX8_text_153 (by decide) ?_
        refine lv_dup2_11 F.1 F.2.1 dX8_text_154 rfl rfl ?_
        refine r_ald F I hr_b2 hk_b2 dX8_text_155 h (fun z3 h => ?_)
        refine lv_iconst (v := 1) F.1 F.2.1 dX8_text_156 (by decide) ?_
        refine r_iadd F dX8_text_157 h (fun z4 h => ?_)
        refine r_ast F I hr_b2 hk_b2 dX8_text_158 h (fun S H locs I h => ?_)
        refine lv_iload_n F.1 F.2.1 dX8_text_159 rfl (lv_at hl 1 rfl) ?_
        exact r_ireturn F I ⟨hr.1, hr.2.1, trivial⟩ h dX8_text_160
      · refine lv_aload_n F.1 F.2.1 dX8_text_123 rfl (lv_at hl 0 rfl) ?_
        refine r_getN F I hr_x0 hk_x0 fX8_9 (f := 9) rfl (by decide) dX8_text_124 h (fun b5 hr_b5 hk_b5 h => ?_)
        refine lv_bipush (v := 117) F.1 F.2.1 dX8_text_127 (by decide) ?_
        refine lv_bipush (v := 96) F.1 F.2.1 dX8_text_129 (by decide) ?_
        refine lv_iload_n F.1 F.2.1 dX8_text_131 rfl (lv_at hl 1 rfl) ?_
        refine r_imul F dX8_text_132 h (fun z6 h => ?_)
        refine r_iadd F dX8_text_133 h (fun z7 h => ?_)
        refine lv_iload_n F.1 F.2.1 dX8_text_134 rfl (lv_at hl 2 rfl) ?_
        refine r_iadd F dX8_text_135 h (fun z8 h => ?_)
        refine lv_aload_n F.1 F.2.1 dX8_text_136 rfl (lv_at hl 0 rfl) ?_
        refine r_getN F I hr_x0 hk_x0 fX8_35 (f := 9) rfl (by decide) dX8_text_137 h (fun b9 hr_b9 hk_b9 h => ?_)
        refine lv_iload_n F.1 F.2.1 dX8_text_140 rfl (lv_at hl 2 rfl) ?_
        refine r_ald F I hr_b9 hk_b9 dX8_text_141 h (fun z10 h => ?_)
        refine r_ast F I hr_b5 hk_b5 dX8_text_142 h (fun S H locs I h => ?_)
        obtain ⟨z11, e_z11, h⟩ := lt_x h
        refine lv_iinc (v := z11) (lv' := [(3, .int z11), (0, .ref (gz g + x0)), (2, .int x2)]) F.1 F.2.1 dX8_text_143 hl (k := 2) rfl (by rw [e_z11]; rfl) (by decide) rfl (fun ls hl => ?_)
        refine lv_goto (tgt := 115) F.1 F.2.1 dX8_text_146 (by decide) ?_
        exact hk115 S _ _ _ x0 x2 z11 hr_x0 hk_x0 h I (lv_sub hl [1, 2, 0] rfl)
  have hj_33 : ∀ (S : HC) (H : Heap) (locs : List Loc) (ls : Array Slot) (x0 : Nat) (t0 : Int32), x0 < N → kd x0 = 8 → BX8_text_33 ln post S x0 t0 → Inv g N ln S s H locs → lv_has ls 4 [(0, .ref (gz g + x0))] → W p l e rmX8_text s m ([.ref (gz g + a0)] : List Value).toArray below meth c H locs 0 0 (MQ below (QI g N ln post) ([.ref (gz g + a0)] : List Value).toArray s 0 0 (gF g)) (F0 m 33 ls [.int t0]) := by
    intro S H locs ls x0 t0 hr_x0 hk_x0 h I hl
    unfold BX8_text_33 at h
    refine lv_istore_n (lv' := [(1, .int t0), (0, .ref (gz g + x0))]) F.1 F.2.1 dX8_text_33 rfl hl (by decide) rfl (fun ls hl => ?_)
    refine lv_aload_n F.1 F.2.1 dX8_text_34 rfl (lv_at hl 1 rfl) ?_
    refine lv_iconst (v := 0) F.1 F.2.1 dX8_text_35 (by decide) ?_
    refine r_putI F I hr_x0 hk_x0 fX8_190 rfl (Or.inl rfl) ⟨rfl, rfl⟩ dX8_text_36 h (fun S H locs I h => ?_)
    refine lv_iload_n F.1 F.2.1 dX8_text_39 rfl (lv_at hl 0 rfl) ?_
    refine r_if_ne (tgt := 51) F dX8_text_40 (by decide) h (fun h => ?_) (fun h => ?_)
    · refine lv_aload_n F.1 F.2.1 dX8_text_51 rfl (lv_at hl 1 rfl) ?_
      refine r_getN F I hr_x0 hk_x0 fX8_9 (f := 9) rfl (by decide) dX8_text_52 h (fun b12 hr_b12 hk_b12 h => ?_)
      refine lv_iconst (v := 4) F.1 F.2.1 dX8_text_55 (by decide) ?_
      refine r_ald F I hr_b12 hk_b12 dX8_text_56 h (fun z13 h => ?_)
      refine lv_bipush (v := 14) F.1 F.2.1 dX8_text_57 (by decide) ?_
      refine r_icmp_ne (tgt := 65) F dX8_text_59 (by decide) h (fun h => ?_) (fun h => ?_)
      · refine lv_aload_n F.1 F.2.1 dX8_text_65 rfl (lv_at hl 1 rfl) ?_
        refine r_getN F I hr_x0 hk_x0 fX8_9 (f := 9) rfl (by decide) dX8_text_66 h (fun b14 hr_b14 hk_b14 h => ?_)
        refine lv_iconst (v := 4) F.1 F.2.1 dX8_text_69 (by decide) ?_
        refine r_ald F I hr_b14 hk_b14 dX8_text_70 h (fun z15 h => ?_)
        refine lv_istore_n (lv' := [(2, .int z15), (1, .int t0), (0, .ref (gz g + x0))]) F.1 F.2.1 dX8_text_71 rfl hl (by decide) rfl (fun ls hl => ?_)
        refine lv_aload_n F.1 F.2.1 dX8_text_72 rfl (lv_at hl 2 rfl) ?_
        refine r_getN F I hr_x0 hk_x0 fX8_9 (f := 9) rfl (by decide) dX8_text_73 h (fun b16 hr_b16 hk_b16 h => ?_)
        refine lv_bipush (v := 89) F.1 F.2.1 dX8_text_76 (by decide) ?_
        refine lv_iconst (v := 2) F.1 F.2.1 dX8_text_78 (by decide) ?_
        refine lv_iload_n F.1 F.2.1 dX8_text_79 rfl (lv_at hl 0 rfl) ?_
        refine r_imul F dX8_text_80 h (fun z17 h => ?_)
        refine r_iadd F dX8_text_81 h (fun z18 h => ?_)
        refine lv_sipush (v := 1000) F.1 F.2.1 dX8_text_82 (by decide) ?_
        refine lv_aload_n F.1 F.2.1 dX8_text_85 rfl (lv_at hl 2 rfl) ?_
        refine r_getI F I hr_x0 hk_x0 fX8_215 rfl dX8_text_86 h (fun z19 h => ?_)
        refine r_imul F dX8_text_89 h (fun z20 h => ?_)
        refine lv_aload_n F.1 F.2.1 dX8_text_90 rfl (lv_at hl 2 rfl) ?_
        refine r_getI F I hr_x0 hk_x0 fX8_227 rfl dX8_text_91 h (fun z21 h => ?_)
        refine r_iadd F dX8_text_94 h (fun z22 h => ?_)
        refine r_ast F I hr_b16 hk_b16 dX8_text_95 h (fun S H locs I h => ?_)
        refine lv_aload_n F.1 F.2.1 dX8_text_96 rfl (lv_at hl 2 rfl) ?_
        refine r_getN F I hr_x0 hk_x0 fX8_9 (f := 9) rfl (by decide) dX8_text_97 h (fun b23 hr_b23 hk_b23 h => ?_)
        refine lv_bipush (v := 89) F.1 F.2.1 dX8_text_100 (by decide) ?_
        refine lv_iconst (v := 2) F.1 F.2.1 dX8_text_102 (by decide) ?_
        refine lv_iload_n F.1 F.2.1 dX8_text_103 rfl (lv_at hl 0 rfl) ?_
        refine r_imul F dX8_text_104 h (fun z24 h => ?_)
        refine r_iadd F dX8_text_105 h (fun z25 h => ?_)
        refine lv_iconst (v := 1) F.1 F.2.1 dX8_text_106 (by decide) ?_
        refine r_iadd F dX8_text_107 h (fun z26 h => ?_)
        refine lv_aload_n F.1 F.2.1 dX8_text_108 rfl (lv_at hl 2 rfl) ?_
        refine r_getI F I hr_x0 hk_x0 fX8_233 rfl dX8_text_109 h (fun z27 h => ?_)
        refine r_ast F I hr_b23 hk_b23 dX8_text_112 h (fun S H locs I h => ?_)
        refine lv_iconst (v := 0) F.1 F.2.1 dX8_text_113 (by decide) ?_
        refine lv_istore_n (lv' := [(3, .int (0 : Int32)), (2, .int z15), (1, .int t0), (0, .ref (gz g + x0))]) F.1 F.2.1 dX8_text_114 rfl hl (by decide) rfl (fun ls hl => ?_)
        obtain ⟨n115, h⟩ := h
        exact hl_115 n115 S _ _ _ x0 z15 (0 : Int32) hr_x0 hk_x0 h I (lv_sub hl [3, 1, 0] rfl)
      · refine lv_ldc F.1 F.2.1 F.2.2.2.1 (F.2.2.2.2 _ tw_1065) dX8_text_62 ?_
        exact r_ireturn F I ⟨hr.1, hr.2.1, trivial⟩ h dX8_text_64
    · refine lv_bipush (v := -100) F.1 F.2.1 dX8_text_43 (by decide) ?_
      refine lv_aload_n F.1 F.2.1 dX8_text_45 rfl (lv_at hl 1 rfl) ?_
      refine r_getI F I hr_x0 hk_x0 fX8_197 rfl dX8_text_46 h (fun z28 h => ?_)
      refine r_isub F dX8_text_49 h (fun z29 h => ?_)
      exact r_ireturn F I ⟨hr.1, hr.2.1, trivial⟩ h dX8_text_50
  have hj_32 : ∀ (S : HC) (H : Heap) (locs : List Loc) (ls : Array Slot) (x0 : Nat), x0 < N → kd x0 = 8 → BX8_text_32 ln post S x0 → Inv g N ln S s H locs → lv_has ls 4 [(0, .ref (gz g + x0))] → W p l e rmX8_text s m ([.ref (gz g + a0)] : List Value).toArray below meth c H locs 0 0 (MQ below (QI g N ln post) ([.ref (gz g + a0)] : List Value).toArray s 0 0 (gF g)) (F0 m 32 ls []) := by
    intro S H locs ls x0 hr_x0 hk_x0 h I hl
    unfold BX8_text_32 at h
    refine lv_iconst (v := 0) F.1 F.2.1 dX8_text_32 (by decide) ?_
    exact hj_33 S _ _ _ x0 (0 : Int32) hr_x0 hk_x0 h I (lv_sub hl [0] rfl)
  refine lv_aload_n F.1 F.2.1 dX8_text_0 rfl (lv_at hl 0 rfl) ?_
  refine lv_iconst (v := 0) F.1 F.2.1 dX8_text_1 (by decide) ?_
  refine r_putI F I hr_a0 hk_a0 fX8_194 rfl (Or.inl rfl) ⟨rfl, rfl⟩ dX8_text_2 h (fun S H locs I h => ?_)
  refine lv_aload_n F.1 F.2.1 dX8_text_5 rfl (lv_at hl 0 rfl) ?_
  refine lv_iconst (v := -1) F.1 F.2.1 dX8_text_6 (by decide) ?_
  refine r_putI F I hr_a0 hk_a0 fX8_200 rfl (Or.inl rfl) ⟨rfl, rfl⟩ dX8_text_7 h (fun S H locs I h => ?_)
  refine lv_aload_n F.1 F.2.1 dX8_text_10 rfl (lv_at hl 0 rfl) ?_
  refine g_V I (run_V (As := []) (rest := []) F I hr_a0 hk_a0 (by decide) kX8_218 (ctX8_go hr_a0 hk_a0 h) ⟨rfl, rfl⟩ ⟨Nat.le_of_ble_eq_true rfl, Nat.le_of_ble_eq_true rfl⟩ rfl hl.1 rfl (Nat.le_of_ble_eq_true rfl) ⟨Nat.le_of_ble_eq_true rfl, Nat.le_of_ble_eq_true rfl⟩ dX8_text_11) (fun S H locs I h => ?_)
  refine lv_aload_n F.1 F.2.1 dX8_text_14 rfl (lv_at hl 0 rfl) ?_
  refine g_I I (run_V (As := []) (rest := []) F I hr_a0 hk_a0 (by decide) kX8_249 (ctX8_takesKey hr_a0 hk_a0 h) ⟨rfl, rfl⟩ ⟨Nat.le_of_ble_eq_true rfl, Nat.le_of_ble_eq_true rfl⟩ rfl hl.1 rfl (Nat.le_of_ble_eq_true rfl) ⟨Nat.le_of_ble_eq_true rfl, Nat.le_of_ble_eq_true rfl⟩ dX8_text_15) (fun z30 S H locs I h => ?_)
  refine r_if_eq (tgt := 32) F dX8_text_18 (by decide) h (fun h => ?_) (fun h => ?_)
  · exact hj_32 S _ _ _ a0 hr_a0 hk_a0 h I (lv_sub hl [0] rfl)
  · refine lv_aload_n F.1 F.2.1 dX8_text_21 rfl (lv_at hl 0 rfl) ?_
    refine g_I I (run_V (As := []) (rest := []) F I hr_a0 hk_a0 (by decide) kX8_252 (ctX8_takesE hr_a0 hk_a0 h) ⟨rfl, rfl⟩ ⟨Nat.le_of_ble_eq_true rfl, Nat.le_of_ble_eq_true rfl⟩ rfl hl.1 rfl (Nat.le_of_ble_eq_true rfl) ⟨Nat.le_of_ble_eq_true rfl, Nat.le_of_ble_eq_true rfl⟩ dX8_text_22) (fun z31 S H locs I h => ?_)
    refine r_if_eq (tgt := 32) F dX8_text_25 (by decide) h (fun h => ?_) (fun h => ?_)
    · exact hj_32 S _ _ _ a0 hr_a0 hk_a0 h I (lv_sub hl [0] rfl)
    · refine lv_iconst (v := 1) F.1 F.2.1 dX8_text_28 (by decide) ?_
      refine lv_goto (tgt := 33) F.1 F.2.1 dX8_text_29 (by decide) ?_
      exact hj_33 S _ _ _ a0 (1 : Int32) hr_a0 hk_a0 h I (lv_sub hl [0] rfl)
