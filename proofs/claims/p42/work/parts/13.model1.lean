theorem bdX8_in_0 : ∀ q ∈ ([(0, .iload_n 0, 1), (1, .iload_n 1, 1), (2, .if_icmp .lt 12, 3), (5, .iload_n 0, 1), (6, .iload_n 2, 1), (7, .if_icmp .gt 7, 3), (10, .iconst 1, 1), (11, .goto 4, 3), (14, .iconst 0, 1), (15, .ireturn, 1)] : List (Nat × Jvm.ClassFile.Instr × Nat)), decode cX8_in q.1 = .ok q.2 := chk_ok _ 0 _ rfl (by decide +kernel)
theorem dX8_in_0 : decode cX8_in 0 = .ok (.iload_n 0, 1) := bdX8_in_0 (0, .iload_n 0, 1) (List.mem_of_getElem? (i := 0) rfl)
theorem dX8_in_1 : decode cX8_in 1 = .ok (.iload_n 1, 1) := bdX8_in_0 (1, .iload_n 1, 1) (List.mem_of_getElem? (i := 1) rfl)
theorem dX8_in_2 : decode cX8_in 2 = .ok (.if_icmp .lt 12, 3) := bdX8_in_0 (2, .if_icmp .lt 12, 3) (List.mem_of_getElem? (i := 2) rfl)
theorem dX8_in_5 : decode cX8_in 5 = .ok (.iload_n 0, 1) := bdX8_in_0 (5, .iload_n 0, 1) (List.mem_of_getElem? (i := 3) rfl)
theorem dX8_in_6 : decode cX8_in 6 = .ok (.iload_n 2, 1) := bdX8_in_0 (6, .iload_n 2, 1) (List.mem_of_getElem? (i := 4) rfl)
theorem dX8_in_7 : decode cX8_in 7 = .ok (.if_icmp .gt 7, 3) := bdX8_in_0 (7, .if_icmp .gt 7, 3) (List.mem_of_getElem? (i := 5) rfl)
theorem dX8_in_10 : decode cX8_in 10 = .ok (.iconst 1, 1) := bdX8_in_0 (10, .iconst 1, 1) (List.mem_of_getElem? (i := 6) rfl)
theorem dX8_in_11 : decode cX8_in 11 = .ok (.goto 4, 3) := bdX8_in_0 (11, .goto 4, 3) (List.mem_of_getElem? (i := 7) rfl)
theorem dX8_in_14 : decode cX8_in 14 = .ok (.iconst 0, 1) := bdX8_in_0 (14, .iconst 0, 1) (List.mem_of_getElem? (i := 8) rfl)
theorem dX8_in_15 : decode cX8_in 15 = .ok (.ireturn, 1) := bdX8_in_0 (15, .ireturn, 1) (List.mem_of_getElem? (i := 9) rfl)
def BX8_in_14 (ln : Nat → Nat) (post : Int32 → HC → Prop) (S : HC)  : Prop := rb_ .boolean (0 : Int32) (post (0 : Int32) S)
def wpX8_in (ln : Nat → Nat) (S : HC) (a0 : Int32) (a1 : Int32) (a2 : Int32) (post : Int32 → HC → Prop) : Prop := if a0 < a1 then (BX8_in_14 ln post S) else (if a2 < a0 then (BX8_in_14 ln post S) else (rb_ .boolean (1 : Int32) (post (1 : Int32) S)))
abbrev rmX8_in : Room := { frames := 0, cells := 0, slots := 0, locals := 0 }
set_option maxHeartbeats 4000000 in
set_option maxRecDepth 100000 in
theorem ctX8_in {l : Launch} {g : GX} {N : Nat} {ln : Nat → Nat} {S : HC} {a0 : Int32} {a1 : Int32} {a2 : Int32} {post : Int32 → HC → Prop} (h : wpX8_in ln S a0 a1 a2 post) : Met l yX8_in (Cond.code yX8_in prog_10_method_2_code 3 (Option.some Jvm.ClassFile.FieldType.boolean) :: gtbl) rmX8_in (va_Pc [.int a0, .int a1, .int a2] (AtP g N ln S)) (QI g N ln post) 0 0 (gF g) := by
  refine m_of (by decide) (Nat.le_of_ble_eq_true rfl) ?_
  intro p e s m below meth c ls F hr I hl
  have hl : lv_has ls 3 [(0, .int a0), (1, .int a1), (2, .int a2)] := hl
  unfold wpX8_in at h
  have hj_14 : ∀ (S : HC) (H : Heap) (locs : List Loc) (ls : Array Slot), BX8_in_14 ln post S  → Inv g N ln S s H locs → lv_has ls 3 [] → W p l e rmX8_in s m ([.int a0, .int a1, .int a2] : List Value).toArray below meth c H locs 0 0 (MQ below (QI g N ln post) ([.int a0, .int a1, .int a2] : List Value).toArray s 0 0 (gF g)) (F0 m 14 ls []) := by
    intro S H locs ls h I hl
    unfold BX8_in_14 at h
    refine lv_iconst (v := 0) F.1 F.2.1 dX8_in_14 (by decide) ?_
    exact r_zreturn F I ⟨hr.1, hr.2.1, trivial⟩ h dX8_in_15
  refine lv_iload_n F.1 F.2.1 dX8_in_0 rfl (lv_at hl 0 rfl) ?_
  refine lv_iload_n F.1 F.2.1 dX8_in_1 rfl (lv_at hl 1 rfl) ?_
  refine r_icmp_lt (tgt := 14) F dX8_in_2 (by decide) h (fun h => ?_) (fun h => ?_)
  · exact hj_14 S _ _ _   h I (lv_sub hl [] rfl)
  · refine lv_iload_n F.1 F.2.1 dX8_in_5 rfl (lv_at hl 0 rfl) ?_
    refine lv_iload_n F.1 F.2.1 dX8_in_6 rfl (lv_at hl 2 rfl) ?_
    refine r_icmp_gt (tgt := 14) F dX8_in_7 (by decide) h (fun h => ?_) (fun h => ?_)
    · exact hj_14 S _ _ _   h I (lv_sub hl [] rfl)
    · refine lv_iconst (v := 1) F.1 F.2.1 dX8_in_10 (by decide) ?_
      refine lv_goto (tgt := 15) F.1 F.2.1 dX8_in_11 (by decide) ?_
      exact r_zreturn F I ⟨hr.1, hr.2.1, trivial⟩ h dX8_in_15
theorem bdX8_within_0 : ∀ q ∈ ([(0, .iload_n 0, 1), (1, .iload_n 1, 1), (2, .if_icmp .ge 7, 3), (5, .iload_n 1, 1), (6, .goto 13, 3), (9, .iload_n 0, 1), (10, .iload_n 2, 1), (11, .if_icmp .le 7, 3), (14, .iload_n 2, 1), (15, .goto 4, 3), (18, .iload_n 0, 1), (19, .ireturn, 1)] : List (Nat × Jvm.ClassFile.Instr × Nat)), decode cX8_within q.1 = .ok q.2 := chk_ok _ 0 _ rfl (by decide +kernel)
theorem dX8_within_0 : decode cX8_within 0 = .ok (.iload_n 0, 1) := bdX8_within_0 (0, .iload_n 0, 1) (List.mem_of_getElem? (i := 0) rfl)
theorem dX8_within_1 : decode cX8_within 1 = .ok (.iload_n 1, 1) := bdX8_within_0 (1, .iload_n 1, 1) (List.mem_of_getElem? (i := 1) rfl)
theorem dX8_within_2 : decode cX8_within 2 = .ok (.if_icmp .ge 7, 3) := bdX8_within_0 (2, .if_icmp .ge 7, 3) (List.mem_of_getElem? (i := 2) rfl)
theorem dX8_within_5 : decode cX8_within 5 = .ok (.iload_n 1, 1) := bdX8_within_0 (5, .iload_n 1, 1) (List.mem_of_getElem? (i := 3) rfl)
theorem dX8_within_6 : decode cX8_within 6 = .ok (.goto 13, 3) := bdX8_within_0 (6, .goto 13, 3) (List.mem_of_getElem? (i := 4) rfl)
theorem dX8_within_9 : decode cX8_within 9 = .ok (.iload_n 0, 1) := bdX8_within_0 (9, .iload_n 0, 1) (List.mem_of_getElem? (i := 5) rfl)
theorem dX8_within_10 : decode cX8_within 10 = .ok (.iload_n 2, 1) := bdX8_within_0 (10, .iload_n 2, 1) (List.mem_of_getElem? (i := 6) rfl)
theorem dX8_within_11 : decode cX8_within 11 = .ok (.if_icmp .le 7, 3) := bdX8_within_0 (11, .if_icmp .le 7, 3) (List.mem_of_getElem? (i := 7) rfl)
theorem dX8_within_14 : decode cX8_within 14 = .ok (.iload_n 2, 1) := bdX8_within_0 (14, .iload_n 2, 1) (List.mem_of_getElem? (i := 8) rfl)
theorem dX8_within_15 : decode cX8_within 15 = .ok (.goto 4, 3) := bdX8_within_0 (15, .goto 4, 3) (List.mem_of_getElem? (i := 9) rfl)
theorem dX8_within_18 : decode cX8_within 18 = .ok (.iload_n 0, 1) := bdX8_within_0 (18, .iload_n 0, 1) (List.mem_of_getElem? (i := 10) rfl)
theorem dX8_within_19 : decode cX8_within 19 = .ok (.ireturn, 1) := bdX8_within_0 (19, .ireturn, 1) (List.mem_of_getElem? (i := 11) rfl)
def wpX8_within (ln : Nat → Nat) (S : HC) (a0 : Int32) (a1 : Int32) (a2 : Int32) (post : Int32 → HC → Prop) : Prop := if a1 ≤ a0 then (if a0 ≤ a2 then (post a0 S) else (post a2 S)) else (post a1 S)
abbrev rmX8_within : Room := { frames := 0, cells := 0, slots := 0, locals := 0 }
set_option maxHeartbeats 4000000 in
set_option maxRecDepth 100000 in
theorem ctX8_within {l : Launch} {g : GX} {N : Nat} {ln : Nat → Nat} {S : HC} {a0 : Int32} {a1 : Int32} {a2 : Int32} {post : Int32 → HC → Prop} (h : wpX8_within ln S a0 a1 a2 post) : Met l yX8_within (Cond.code yX8_within prog_10_method_3_code 3 (Option.some Jvm.ClassFile.FieldType.int) :: gtbl) rmX8_within (va_Pc [.int a0, .int a1, .int a2] (AtP g N ln S)) (QI g N ln post) 0 0 (gF g) := by
  refine m_of (by decide) (Nat.le_of_ble_eq_true rfl) ?_
  intro p e s m below meth c ls F hr I hl
  have hl : lv_has ls 3 [(0, .int a0), (1, .int a1), (2, .int a2)] := hl
  unfold wpX8_within at h
  refine lv_iload_n F.1 F.2.1 dX8_within_0 rfl (lv_at hl 0 rfl) ?_
  refine lv_iload_n F.1 F.2.1 dX8_within_1 rfl (lv_at hl 1 rfl) ?_
  refine r_icmp_ge (tgt := 9) F dX8_within_2 (by decide) h (fun h => ?_) (fun h => ?_)
  · refine lv_iload_n F.1 F.2.1 dX8_within_9 rfl (lv_at hl 0 rfl) ?_
    refine lv_iload_n F.1 F.2.1 dX8_within_10 rfl (lv_at hl 2 rfl) ?_
    refine r_icmp_le (tgt := 18) F dX8_within_11 (by decide) h (fun h => ?_) (fun h => ?_)
    · refine lv_iload_n F.1 F.2.1 dX8_within_18 rfl (lv_at hl 0 rfl) ?_
      exact r_ireturn F I ⟨hr.1, hr.2.1, trivial⟩ h dX8_within_19
    · refine lv_iload_n F.1 F.2.1 dX8_within_14 rfl (lv_at hl 2 rfl) ?_
      refine lv_goto (tgt := 19) F.1 F.2.1 dX8_within_15 (by decide) ?_
      exact r_ireturn F I ⟨hr.1, hr.2.1, trivial⟩ h dX8_within_19
  · refine lv_iload_n F.1 F.2.1 dX8_within_5 rfl (lv_at hl 1 rfl) ?_
    refine lv_goto (tgt := 19) F.1 F.2.1 dX8_within_6 (by decide) ?_
    exact r_ireturn F I ⟨hr.1, hr.2.1, trivial⟩ h dX8_within_19
theorem bdX8_copyAll_0 : ∀ q ∈ ([(0, .iconst 0, 1), (1, .istore_n 2, 1), (2, .iload_n 2, 1), (3, .sipush 1461, 3), (6, .if_icmp .ge 15, 3), (9, .aload_n 1, 1), (10, .iload_n 2, 1), (11, .aload_n 0, 1), (12, .iload_n 2, 1), (13, .iaload, 1), (14, .iastore, 1), (15, .iinc 2 1, 3), (18, .goto (-16), 3), (21, .return_, 1)] : List (Nat × Jvm.ClassFile.Instr × Nat)), decode cX8_copyAll q.1 = .ok q.2 := chk_ok _ 0 _ rfl (by decide +kernel)
theorem dX8_copyAll_0 : decode cX8_copyAll 0 = .ok (.iconst 0, 1) := bdX8_copyAll_0 (0, .iconst 0, 1) (List.mem_of_getElem? (i := 0) rfl)
theorem dX8_copyAll_1 : decode cX8_copyAll 1 = .ok (.istore_n 2, 1) := bdX8_copyAll_0 (1, .istore_n 2, 1) (List.mem_of_getElem? (i := 1) rfl)
theorem dX8_copyAll_2 : decode cX8_copyAll 2 = .ok (.iload_n 2, 1) := bdX8_copyAll_0 (2, .iload_n 2, 1) (List.mem_of_getElem? (i := 2) rfl)
theorem dX8_copyAll_3 : decode cX8_copyAll 3 = .ok (.sipush 1461, 3) := bdX8_copyAll_0 (3, .sipush 1461, 3) (List.mem_of_getElem? (i := 3) rfl)
theorem dX8_copyAll_6 : decode cX8_copyAll 6 = .ok (.if_icmp .ge 15, 3) := bdX8_copyAll_0 (6, .if_icmp .ge 15, 3) (List.mem_of_getElem? (i := 4) rfl)
theorem dX8_copyAll_9 : decode cX8_copyAll 9 = .ok (.aload_n 1, 1) := bdX8_copyAll_0 (9, .aload_n 1, 1) (List.mem_of_getElem? (i := 5) rfl)
theorem dX8_copyAll_10 : decode cX8_copyAll 10 = .ok (.iload_n 2, 1) := bdX8_copyAll_0 (10, .iload_n 2, 1) (List.mem_of_getElem? (i := 6) rfl)
theorem dX8_copyAll_11 : decode cX8_copyAll 11 = .ok (.aload_n 0, 1) := bdX8_copyAll_0 (11, .aload_n 0, 1) (List.mem_of_getElem? (i := 7) rfl)
theorem dX8_copyAll_12 : decode cX8_copyAll 12 = .ok (.iload_n 2, 1) := bdX8_copyAll_0 (12, .iload_n 2, 1) (List.mem_of_getElem? (i := 8) rfl)
theorem dX8_copyAll_13 : decode cX8_copyAll 13 = .ok (.iaload, 1) := bdX8_copyAll_0 (13, .iaload, 1) (List.mem_of_getElem? (i := 9) rfl)
theorem dX8_copyAll_14 : decode cX8_copyAll 14 = .ok (.iastore, 1) := bdX8_copyAll_0 (14, .iastore, 1) (List.mem_of_getElem? (i := 10) rfl)
theorem dX8_copyAll_15 : decode cX8_copyAll 15 = .ok (.iinc 2 1, 3) := bdX8_copyAll_0 (15, .iinc 2 1, 3) (List.mem_of_getElem? (i := 11) rfl)
theorem dX8_copyAll_18 : decode cX8_copyAll 18 = .ok (.goto (-16), 3) := bdX8_copyAll_0 (18, .goto (-16), 3) (List.mem_of_getElem? (i := 12) rfl)
theorem dX8_copyAll_21 : decode cX8_copyAll 21 = .ok (.return_, 1) := bdX8_copyAll_0 (21, .return_, 1) (List.mem_of_getElem? (i := 13) rfl)
def LX8_copyAll_2 (ln : Nat → Nat) (post : HC → Prop) : Nat → HC → Nat → Nat → Int32 → Prop
  | 0 => fun _ _ _ _ => False
  | n2 + 1 => fun S x0 x1 x2 => if (1461 : Int32) ≤ x2 then (post S) else (al_ (ln x0) x2 (hI S x0) fun z1 => as_ (ln x1) x2 (fun j => sI S x1 j z1) fun S => lt_ (x2 + (1 : Int32)) fun z2 => (LX8_copyAll_2 ln post n2) S x0 x1 z2)
def wpX8_copyAll (ln : Nat → Nat) (S : HC) (a0 : Nat) (a1 : Nat) (post : HC → Prop) : Prop := ∃ n2, LX8_copyAll_2 ln post n2 S a0 a1 (0 : Int32)
abbrev rmX8_copyAll : Room := { frames := 0, cells := 0, slots := 0, locals := 0 }
set_option maxHeartbeats 4000000 in
set_option maxRecDepth 100000 in
theorem ctX8_copyAll {l : Launch} {g : GX} {N : Nat} {ln : Nat → Nat} {S : HC} {a0 : Nat} {a1 : Nat} {post : HC → Prop} (hr_a0 : a0 < N) (hk_a0 : kd a0 = 9) (hr_a1 : a1 < N) (hk_a1 : kd a1 = 9) (h : wpX8_copyAll ln S a0 a1 post) : Met l yX8_copyAll (Cond.code yX8_copyAll prog_10_method_4_code 3 (Option.none : Option Jvm.ClassFile.FieldType) :: gtbl) rmX8_copyAll (va_Pc [.ref (gz g + a0), .ref (gz g + a1)] (AtP g N ln S)) (QV g N ln post) 0 0 (gF g) := by
  refine m_of (by decide) (Nat.le_of_ble_eq_true rfl) ?_
  intro p e s m below meth c ls F hr I hl
  have hl : lv_has ls 3 [(0, .ref (gz g + a0)), (1, .ref (gz g + a1))] := hl
  unfold wpX8_copyAll at h
  have hl_2 : ∀ n2 : Nat, ∀ (S : HC) (H : Heap) (locs : List Loc) (ls : Array Slot) (x0 : Nat) (x1 : Nat) (x2 : Int32), x0 < N → kd x0 = 9 → x1 < N → kd x1 = 9 → LX8_copyAll_2 ln post n2 S x0 x1 x2 → Inv g N ln S s H locs → lv_has ls 3 [(0, .ref (gz g + x0)), (1, .ref (gz g + x1)), (2, .int x2)] → W p l e rmX8_copyAll s m ([.ref (gz g + a0), .ref (gz g + a1)] : List Value).toArray below meth c H locs 0 0 (MQ below (QV g N ln post) ([.ref (gz g + a0), .ref (gz g + a1)] : List Value).toArray s 0 0 (gF g)) (F0 m 2 ls []) := by
    intro n2
    induction n2 with
    | zero =>
      intro S H locs ls x0 x1 x2 hr_x0 hk_x0 hr_x1 hk_x1 h I hl
      exact h.elim
    | succ n2 ih =>
      have hk2 := ih
      intro S H locs ls x0 x1 x2 hr_x0 hk_x0 hr_x1 hk_x1 h I hl
      rw [LX8_copyAll_2] at h
      refine lv_iload_n F.1 F.2.1 dX8_copyAll_2 rfl (lv_at hl 2 rfl) ?_
      refine lv_sipush (v := 1461) F.1 F.2.1 dX8_copyAll_3 (by decide) ?_
      refine r_icmp_ge (tgt := 21) F dX8_copyAll_6 (by decide) h (fun h => ?_) (fun h => ?_)
      · exact r_vreturn F I ⟨hr.1, hr.2.1, trivial⟩ h dX8_copyAll_21
      · refine lv_aload_n F.1 F.2.1 dX8_copyAll_9 rfl (lv_at hl 1 rfl) ?_
        refine lv_iload_n F.1 F.2.1 dX8_copyAll_10 rfl (lv_at hl 2 rfl) ?_
        refine lv_aload_n F.1 F.2.1 dX8_copyAll_11 rfl (lv_at hl 0 rfl) ?_
        refine lv_iload_n F.1 F.2.1 dX8_copyAll_12 rfl (lv_at hl 2 rfl) ?_
        refine r_ald F I hr_x0 hk_x0 dX8_copyAll_13 h (fun z1 h => ?_)
        refine r_ast F I hr_x1 hk_x1 dX8_copyAll_14 h (fun S H locs I h => ?_)
        obtain ⟨z2, e_z2, h⟩ := lt_x h
        refine lv_iinc (v := z2) (lv' := [(2, .int z2), (0, .ref (gz g + x0)), (1, .ref (gz g + x1))]) F.1 F.2.1 dX8_copyAll_15 hl (k := 2) rfl (by rw [e_z2]; rfl) (by decide) rfl (fun ls hl => ?_)
        refine lv_goto (tgt := 2) F.1 F.2.1 dX8_copyAll_18 (by decide) ?_
        exact hk2 S _ _ _ x0 x1 z2 hr_x0 hk_x0 hr_x1 hk_x1 h I (lv_sub hl [1, 2, 0] rfl)
  refine lv_iconst (v := 0) F.1 F.2.1 dX8_copyAll_0 (by decide) ?_
  refine lv_istore_n (lv' := [(2, .int (0 : Int32)), (0, .ref (gz g + a0)), (1, .ref (gz g + a1))]) F.1 F.2.1 dX8_copyAll_1 rfl hl (by decide) rfl (fun ls hl => ?_)
  obtain ⟨n2, h⟩ := h
  exact hl_2 n2 S _ _ _ a0 a1 (0 : Int32) hr_a0 hk_a0 hr_a1 hk_a1 h I (lv_sub hl [1, 2, 0] rfl)
theorem bdX8_told0_0 : ∀ q ∈ ([(0, .iload_n 0, 1), (1, .ifCond .ge 8, 3), (4, .ldc 78, 2), (6, .goto 4, 3), (9, .iload_n 0, 1), (10, .ireturn, 1)] : List (Nat × Jvm.ClassFile.Instr × Nat)), decode cX8_told0 q.1 = .ok q.2 := chk_ok _ 0 _ rfl (by decide +kernel)
theorem dX8_told0_0 : decode cX8_told0 0 = .ok (.iload_n 0, 1) := bdX8_told0_0 (0, .iload_n 0, 1) (List.mem_of_getElem? (i := 0) rfl)
theorem dX8_told0_1 : decode cX8_told0 1 = .ok (.ifCond .ge 8, 3) := bdX8_told0_0 (1, .ifCond .ge 8, 3) (List.mem_of_getElem? (i := 1) rfl)
theorem dX8_told0_4 : decode cX8_told0 4 = .ok (.ldc 78, 2) := bdX8_told0_0 (4, .ldc 78, 2) (List.mem_of_getElem? (i := 2) rfl)
theorem dX8_told0_6 : decode cX8_told0 6 = .ok (.goto 4, 3) := bdX8_told0_0 (6, .goto 4, 3) (List.mem_of_getElem? (i := 3) rfl)
theorem dX8_told0_9 : decode cX8_told0 9 = .ok (.iload_n 0, 1) := bdX8_told0_0 (9, .iload_n 0, 1) (List.mem_of_getElem? (i := 4) rfl)
theorem dX8_told0_10 : decode cX8_told0 10 = .ok (.ireturn, 1) := bdX8_told0_0 (10, .ireturn, 1) (List.mem_of_getElem? (i := 5) rfl)
def wpX8_told0 (ln : Nat → Nat) (S : HC) (a0 : Int32) (post : Int32 → HC → Prop) : Prop := if 0 ≤ a0 then (post a0 S) else (post (-1000000005 : Int32) S)
abbrev rmX8_told0 : Room := { frames := 0, cells := 0, slots := 0, locals := 0 }
set_option maxHeartbeats 4000000 in
set_option maxRecDepth 100000 in
theorem ctX8_told0 {l : Launch} {g : GX} {N : Nat} {ln : Nat → Nat} {S : HC} {a0 : Int32} {post : Int32 → HC → Prop} (h : wpX8_told0 ln S a0 post) : Met l yX8_told0 (Cond.code yX8_told0 prog_10_method_5_code 1 (Option.some Jvm.ClassFile.FieldType.int) :: gtbl) rmX8_told0 (va_Pc [.int a0] (AtP g N ln S)) (QI g N ln post) 0 0 (gF g) := by
  refine m_of (by decide) (Nat.le_of_ble_eq_true rfl) ?_
  intro p e s m below meth c ls F hr I hl
  have hl : lv_has ls 1 [(0, .int a0)] := hl
  unfold wpX8_told0 at h
  refine lv_iload_n F.1 F.2.1 dX8_told0_0 rfl (lv_at hl 0 rfl) ?_
  refine r_if_ge (tgt := 9) F dX8_told0_1 (by decide) h (fun h => ?_) (fun h => ?_)
  · refine lv_iload_n F.1 F.2.1 dX8_told0_9 rfl (lv_at hl 0 rfl) ?_
    exact r_ireturn F I ⟨hr.1, hr.2.1, trivial⟩ h dX8_told0_10
  · refine lv_ldc F.1 F.2.1 F.2.2.2.1 (F.2.2.2.2 _ tw_1208) dX8_told0_4 ?_
    refine lv_goto (tgt := 10) F.1 F.2.1 dX8_told0_6 (by decide) ?_
    exact r_ireturn F I ⟨hr.1, hr.2.1, trivial⟩ h dX8_told0_10
theorem bdX8_isOne_0 : ∀ q ∈ ([(0, .iload_n 1, 1), (1, .iconst 0, 1), (2, .aload_n 0, 1), (3, .getfield 9, 3), (6, .iconst 1, 1), (7, .iaload, 1), (8, .iconst 1, 1), (9, .isub, 1), (10, .invokestatic 79, 3), (13, .ireturn, 1)] : List (Nat × Jvm.ClassFile.Instr × Nat)), decode cX8_isOne q.1 = .ok q.2 := chk_ok _ 0 _ rfl (by decide +kernel)
theorem dX8_isOne_0 : decode cX8_isOne 0 = .ok (.iload_n 1, 1) := bdX8_isOne_0 (0, .iload_n 1, 1) (List.mem_of_getElem? (i := 0) rfl)
theorem dX8_isOne_1 : decode cX8_isOne 1 = .ok (.iconst 0, 1) := bdX8_isOne_0 (1, .iconst 0, 1) (List.mem_of_getElem? (i := 1) rfl)
theorem dX8_isOne_2 : decode cX8_isOne 2 = .ok (.aload_n 0, 1) := bdX8_isOne_0 (2, .aload_n 0, 1) (List.mem_of_getElem? (i := 2) rfl)
theorem dX8_isOne_3 : decode cX8_isOne 3 = .ok (.getfield 9, 3) := bdX8_isOne_0 (3, .getfield 9, 3) (List.mem_of_getElem? (i := 3) rfl)
theorem dX8_isOne_6 : decode cX8_isOne 6 = .ok (.iconst 1, 1) := bdX8_isOne_0 (6, .iconst 1, 1) (List.mem_of_getElem? (i := 4) rfl)
theorem dX8_isOne_7 : decode cX8_isOne 7 = .ok (.iaload, 1) := bdX8_isOne_0 (7, .iaload, 1) (List.mem_of_getElem? (i := 5) rfl)
theorem dX8_isOne_8 : decode cX8_isOne 8 = .ok (.iconst 1, 1) := bdX8_isOne_0 (8, .iconst 1, 1) (List.mem_of_getElem? (i := 6) rfl)
theorem dX8_isOne_9 : decode cX8_isOne 9 = .ok (.isub, 1) := bdX8_isOne_0 (9, .isub, 1) (List.mem_of_getElem? (i := 7) rfl)
theorem dX8_isOne_10 : decode cX8_isOne 10 = .ok (.invokestatic 79, 3) := bdX8_isOne_0 (10, .invokestatic 79, 3) (List.mem_of_getElem? (i := 8) rfl)
theorem dX8_isOne_13 : decode cX8_isOne 13 = .ok (.ireturn, 1) := bdX8_isOne_0 (13, .ireturn, 1) (List.mem_of_getElem? (i := 9) rfl)
theorem fX8_9 : fldOK RX8 9 8 0 (.array .int) true := ⟨_, _, _, tyX8, ⟨rfl, iX8, by decide, rfl, by decide⟩, tw_937, ⟨tyX8_ok, nmX8⟩, by decide +kernel, rfl, rfl⟩
theorem kX8_79 : mthS RX8 79 yX8_in prog_10_method_2_code 3 (Option.some Jvm.ClassFile.FieldType.boolean) 3 := ⟨⟨⟨tw_1046, tw_67, tw_1048⟩, rfl, by decide +kernel⟩, tw_1047⟩
def wpX8_isOne (ln : Nat → Nat) (S : HC) (a0 : Nat) (a1 : Int32) (post : Int32 → HC → Prop) : Prop := dn_ (hR S a0 0) fun b1 => al_ (ln b1) (1 : Int32) (hI S b1) fun z2 => lt_ (z2 - (1 : Int32)) fun z3 => wpX8_in ln S a1 (0 : Int32) z3 fun z4 S => rb_ .boolean z4 (post z4 S)
abbrev rmX8_isOne : Room := { frames := 1, cells := 0, slots := 0, locals := 22 }
set_option maxHeartbeats 4000000 in
set_option maxRecDepth 100000 in
theorem ctX8_isOne {l : Launch} {g : GX} {N : Nat} {ln : Nat → Nat} {S : HC} {a0 : Nat} {a1 : Int32} {post : Int32 → HC → Prop} (hr_a0 : a0 < N) (hk_a0 : kd a0 = 8) (h : wpX8_isOne ln S a0 a1 post) : Met l yX8_isOne (Cond.code yX8_isOne prog_10_method_6_code 2 (Option.some Jvm.ClassFile.FieldType.boolean) :: gtbl) rmX8_isOne (va_Pc [.ref (gz g + a0), .int a1] (AtP g N ln S)) (QI g N ln post) 0 0 (gF g) := by
  refine m_of (by decide) (Nat.le_of_ble_eq_true rfl) ?_
  intro p e s m below meth c ls F hr I hl
  have hl : lv_has ls 2 [(0, .ref (gz g + a0)), (1, .int a1)] := hl
  unfold wpX8_isOne at h
  refine lv_iload_n F.1 F.2.1 dX8_isOne_0 rfl (lv_at hl 1 rfl) ?_
  refine lv_iconst (v := 0) F.1 F.2.1 dX8_isOne_1 (by decide) ?_
  refine lv_aload_n F.1 F.2.1 dX8_isOne_2 rfl (lv_at hl 0 rfl) ?_
  refine r_getN F I hr_a0 hk_a0 fX8_9 (f := 9) rfl (by decide) dX8_isOne_3 h (fun b1 hr_b1 hk_b1 h => ?_)
  refine lv_iconst (v := 1) F.1 F.2.1 dX8_isOne_6 (by decide) ?_
  refine r_ald F I hr_b1 hk_b1 dX8_isOne_7 h (fun z2 h => ?_)
  refine lv_iconst (v := 1) F.1 F.2.1 dX8_isOne_8 (by decide) ?_
  refine r_isub F dX8_isOne_9 h (fun z3 h => ?_)
  refine g_I I (run_S (As := [.int a1, .int (0 : Int32), .int z3]) (rest := []) F I kX8_79 (ctX8_in h) ⟨rfl, rfl⟩ ⟨Nat.le_of_ble_eq_true rfl, Nat.le_of_ble_eq_true rfl⟩ rfl hl.1 rfl (Nat.le_of_ble_eq_true rfl) ⟨Nat.le_of_ble_eq_true rfl, Nat.le_of_ble_eq_true rfl⟩ dX8_isOne_10) (fun z4 S H locs I h => ?_)
  exact r_zreturn F I ⟨hr.1, hr.2.1, trivial⟩ h dX8_isOne_13
theorem bdX8_isCharge_0 : ∀ q ∈ ([(0, .iload_n 0, 1), (1, .iconst 0, 1), (2, .bipush 7, 2), (4, .invokestatic 79, 3), (7, .ireturn, 1)] : List (Nat × Jvm.ClassFile.Instr × Nat)), decode cX8_isCharge q.1 = .ok q.2 := chk_ok _ 0 _ rfl (by decide +kernel)
theorem dX8_isCharge_0 : decode cX8_isCharge 0 = .ok (.iload_n 0, 1) := bdX8_isCharge_0 (0, .iload_n 0, 1) (List.mem_of_getElem? (i := 0) rfl)
theorem dX8_isCharge_1 : decode cX8_isCharge 1 = .ok (.iconst 0, 1) := bdX8_isCharge_0 (1, .iconst 0, 1) (List.mem_of_getElem? (i := 1) rfl)
theorem dX8_isCharge_2 : decode cX8_isCharge 2 = .ok (.bipush 7, 2) := bdX8_isCharge_0 (2, .bipush 7, 2) (List.mem_of_getElem? (i := 2) rfl)
theorem dX8_isCharge_4 : decode cX8_isCharge 4 = .ok (.invokestatic 79, 3) := bdX8_isCharge_0 (4, .invokestatic 79, 3) (List.mem_of_getElem? (i := 3) rfl)
theorem dX8_isCharge_7 : decode cX8_isCharge 7 = .ok (.ireturn, 1) := bdX8_isCharge_0 (7, .ireturn, 1) (List.mem_of_getElem? (i := 4) rfl)
def wpX8_isCharge (ln : Nat → Nat) (S : HC) (a0 : Int32) (post : Int32 → HC → Prop) : Prop := wpX8_in ln S a0 (0 : Int32) (7 : Int32) fun z1 S => rb_ .boolean z1 (post z1 S)
abbrev rmX8_isCharge : Room := { frames := 1, cells := 0, slots := 0, locals := 22 }
set_option maxHeartbeats 4000000 in
set_option maxRecDepth 100000 in
theorem ctX8_isCharge {l : Launch} {g : GX} {N : Nat} {ln : Nat → Nat} {S : HC} {a0 : Int32} {post : Int32 → HC → Prop} (h : wpX8_isCharge ln S a0 post) : Met l yX8_isCharge (Cond.code yX8_isCharge prog_10_method_7_code 1 (Option.some Jvm.ClassFile.FieldType.boolean) :: gtbl) rmX8_isCharge (va_Pc [.int a0] (AtP g N ln S)) (QI g N ln post) 0 0 (gF g) := by
  refine m_of (by decide) (Nat.le_of_ble_eq_true rfl) ?_
  intro p e s m below meth c ls F hr I hl
  have hl : lv_has ls 1 [(0, .int a0)] := hl
  unfold wpX8_isCharge at h
  refine lv_iload_n F.1 F.2.1 dX8_isCharge_0 rfl (lv_at hl 0 rfl) ?_
  refine lv_iconst (v := 0) F.1 F.2.1 dX8_isCharge_1 (by decide) ?_
  refine lv_bipush (v := 7) F.1 F.2.1 dX8_isCharge_2 (by decide) ?_
  refine g_I I (run_S (As := [.int a0, .int (0 : Int32), .int (7 : Int32)]) (rest := []) F I kX8_79 (ctX8_in h) ⟨rfl, rfl⟩ ⟨Nat.le_of_ble_eq_true rfl, Nat.le_of_ble_eq_true rfl⟩ rfl hl.1 rfl (Nat.le_of_ble_eq_true rfl) ⟨Nat.le_of_ble_eq_true rfl, Nat.le_of_ble_eq_true rfl⟩ dX8_isCharge_4) (fun z1 S H locs I h => ?_)
  exact r_zreturn F I ⟨hr.1, hr.2.1, trivial⟩ h dX8_isCharge_7
theorem bdX8_of_0 : ∀ q ∈ ([(0, .aload_n 0, 1), (1, .getfield 9, 3), (4, .iconst 5, 1), (5, .bipush 6, 2), (7, .iload_n 1, 1), (8, .imul, 1), (9, .iadd, 1), (10, .iload_n 2, 1), (11, .iadd, 1), (12, .iaload, 1), (13, .ireturn, 1)] : List (Nat × Jvm.ClassFile.Instr × Nat)), decode cX8_of q.1 = .ok q.2 := chk_ok _ 0 _ rfl (by decide +kernel)
theorem dX8_of_0 : decode cX8_of 0 = .ok (.aload_n 0, 1) := bdX8_of_0 (0, .aload_n 0, 1) (List.mem_of_getElem? (i := 0) rfl)
theorem dX8_of_1 : decode cX8_of 1 = .ok (.getfield 9, 3) := bdX8_of_0 (1, .getfield 9, 3) (List.mem_of_getElem? (i := 1) rfl)
theorem dX8_of_4 : decode cX8_of 4 = .ok (.iconst 5, 1) := bdX8_of_0 (4, .iconst 5, 1) (List.mem_of_getElem? (i := 2) rfl)
theorem dX8_of_5 : decode cX8_of 5 = .ok (.bipush 6, 2) := bdX8_of_0 (5, .bipush 6, 2) (List.mem_of_getElem? (i := 3) rfl)
theorem dX8_of_7 : decode cX8_of 7 = .ok (.iload_n 1, 1) := bdX8_of_0 (7, .iload_n 1, 1) (List.mem_of_getElem? (i := 4) rfl)
theorem dX8_of_8 : decode cX8_of 8 = .ok (.imul, 1) := bdX8_of_0 (8, .imul, 1) (List.mem_of_getElem? (i := 5) rfl)
theorem dX8_of_9 : decode cX8_of 9 = .ok (.iadd, 1) := bdX8_of_0 (9, .iadd, 1) (List.mem_of_getElem? (i := 6) rfl)
theorem dX8_of_10 : decode cX8_of 10 = .ok (.iload_n 2, 1) := bdX8_of_0 (10, .iload_n 2, 1) (List.mem_of_getElem? (i := 7) rfl)
theorem dX8_of_11 : decode cX8_of 11 = .ok (.iadd, 1) := bdX8_of_0 (11, .iadd, 1) (List.mem_of_getElem? (i := 8) rfl)
theorem dX8_of_12 : decode cX8_of 12 = .ok (.iaload, 1) := bdX8_of_0 (12, .iaload, 1) (List.mem_of_getElem? (i := 9) rfl)
theorem dX8_of_13 : decode cX8_of 13 = .ok (.ireturn, 1) := bdX8_of_0 (13, .ireturn, 1) (List.mem_of_getElem? (i := 10) rfl)
def wpX8_of (ln : Nat → Nat) (S : HC) (a0 : Nat) (a1 : Int32) (a2 : Int32) (post : Int32 → HC → Prop) : Prop := dn_ (hR S a0 0) fun b1 => lt_ ((6 : Int32) * a1) fun z2 => lt_ ((5 : Int32) + z2) fun z3 => lt_ (z3 + a2) fun z4 => al_ (ln b1) z4 (hI S b1) fun z5 => post z5 S
abbrev rmX8_of : Room := { frames := 0, cells := 0, slots := 0, locals := 0 }
set_option maxHeartbeats 4000000 in
set_option maxRecDepth 100000 in
theorem ctX8_of {l : Launch} {g : GX} {N : Nat} {ln : Nat → Nat} {S : HC} {a0 : Nat} {a1 : Int32} {a2 : Int32} {post : Int32 → HC → Prop} (hr_a0 : a0 < N) (hk_a0 : kd a0 = 8) (h : wpX8_of ln S a0 a1 a2 post) : Met l yX8_of (Cond.code yX8_of prog_10_method_8_code 3 (Option.some Jvm.ClassFile.FieldType.int) :: gtbl) rmX8_of (va_Pc [.ref (gz g + a0), .int a1, .int a2] (AtP g N ln S)) (QI g N ln post) 0 0 (gF g) := by
  refine m_of (by decide) (Nat.le_of_ble_eq_true rfl) ?_
  intro p e s m below meth c ls F hr I hl
  have hl : lv_has ls 3 [(0, .ref (gz g + a0)), (1, .int a1), (2, .int a2)] := hl
  unfold wpX8_of at h
  refine lv_aload_n F.1 F.2.1 dX8_of_0 rfl (lv_at hl 0 rfl) ?_
  refine r_getN F I hr_a0 hk_a0 fX8_9 (f := 9) rfl (by decide) dX8_of_1 h (fun b1 hr_b1 hk_b1 h => ?_)
  refine lv_iconst (v := 5) F.1 F.2.1 dX8_of_4 (by decide) ?_
  refine lv_bipush (v := 6) F.1 F.2.1 dX8_of_5 (by decide) ?_
  refine lv_iload_n F.1 F.2.1 dX8_of_7 rfl (lv_at hl 1 rfl) ?_
  refine r_imul F dX8_of_8 h (fun z2 h => ?_)
  refine r_iadd F dX8_of_9 h (fun z3 h => ?_)
  refine lv_iload_n F.1 F.2.1 dX8_of_10 rfl (lv_at hl 2 rfl) ?_
  refine r_iadd F dX8_of_11 h (fun z4 h => ?_)
  refine r_ald F I hr_b1 hk_b1 dX8_of_12 h (fun z5 h => ?_)
  exact r_ireturn F I ⟨hr.1, hr.2.1, trivial⟩ h dX8_of_13
theorem bdX8_becomes_0 : ∀ q ∈ ([(0, .aload_n 0, 1), (1, .getfield 9, 3), (4, .iload_n 1, 1), (5, .iaload, 1), (6, .istore_n 3, 1), (7, .aload_n 0, 1), (8, .getfield 9, 3), (11, .iload_n 1, 1), (12, .iload_n 2, 1), (13, .iastore, 1), (14, .iload_n 3, 1), (15, .ireturn, 1)] : List (Nat × Jvm.ClassFile.Instr × Nat)), decode cX8_becomes q.1 = .ok q.2 := chk_ok _ 0 _ rfl (by decide +kernel)
theorem dX8_becomes_0 : decode cX8_becomes 0 = .ok (.aload_n 0, 1) := bdX8_becomes_0 (0, .aload_n 0, 1) (List.mem_of_getElem? (i := 0) rfl)
theorem dX8_becomes_1 : decode cX8_becomes 1 = .ok (.getfield 9, 3) := bdX8_becomes_0 (1, .getfield 9, 3) (List.mem_of_getElem? (i := 1) rfl)
theorem dX8_becomes_4 : decode cX8_becomes 4 = .ok (.iload_n 1, 1) := bdX8_becomes_0 (4, .iload_n 1, 1) (List.mem_of_getElem? (i := 2) rfl)
theorem dX8_becomes_5 : decode cX8_becomes 5 = .ok (.iaload, 1) := bdX8_becomes_0 (5, .iaload, 1) (List.mem_of_getElem? (i := 3) rfl)
theorem dX8_becomes_6 : decode cX8_becomes 6 = .ok (.istore_n 3, 1) := bdX8_becomes_0 (6, .istore_n 3, 1) (List.mem_of_getElem? (i := 4) rfl)
theorem dX8_becomes_7 : decode cX8_becomes 7 = .ok (.aload_n 0, 1) := bdX8_becomes_0 (7, .aload_n 0, 1) (List.mem_of_getElem? (i := 5) rfl)
theorem dX8_becomes_8 : decode cX8_becomes 8 = .ok (.getfield 9, 3) := bdX8_becomes_0 (8, .getfield 9, 3) (List.mem_of_getElem? (i := 6) rfl)
theorem dX8_becomes_11 : decode cX8_becomes 11 = .ok (.iload_n 1, 1) := bdX8_becomes_0 (11, .iload_n 1, 1) (List.mem_of_getElem? (i := 7) rfl)
theorem dX8_becomes_12 : decode cX8_becomes 12 = .ok (.iload_n 2, 1) := bdX8_becomes_0 (12, .iload_n 2, 1) (List.mem_of_getElem? (i := 8) rfl)
theorem dX8_becomes_13 : decode cX8_becomes 13 = .ok (.iastore, 1) := bdX8_becomes_0 (13, .iastore, 1) (List.mem_of_getElem? (i := 9) rfl)
theorem dX8_becomes_14 : decode cX8_becomes 14 = .ok (.iload_n 3, 1) := bdX8_becomes_0 (14, .iload_n 3, 1) (List.mem_of_getElem? (i := 10) rfl)
theorem dX8_becomes_15 : decode cX8_becomes 15 = .ok (.ireturn, 1) := bdX8_becomes_0 (15, .ireturn, 1) (List.mem_of_getElem? (i := 11) rfl)
def wpX8_becomes (ln : Nat → Nat) (S : HC) (a0 : Nat) (a1 : Int32) (a2 : Int32) (post : Int32 → HC → Prop) : Prop := dn_ (hR S a0 0) fun b1 => al_ (ln b1) a1 (hI S b1) fun z2 => dn_ (hR S a0 0) fun b3 => as_ (ln b3) a1 (fun j => sI S b3 j a2) fun S => post z2 S
abbrev rmX8_becomes : Room := { frames := 0, cells := 0, slots := 0, locals := 0 }
set_option maxHeartbeats 4000000 in
set_option maxRecDepth 100000 in
theorem ctX8_becomes {l : Launch} {g : GX} {N : Nat} {ln : Nat → Nat} {S : HC} {a0 : Nat} {a1 : Int32} {a2 : Int32} {post : Int32 → HC → Prop} (hr_a0 : a0 < N) (hk_a0 : kd a0 = 8) (h : wpX8_becomes ln S a0 a1 a2 post) : Met l yX8_becomes (Cond.code yX8_becomes prog_10_method_9_code 4 (Option.some Jvm.ClassFile.FieldType.int) :: gtbl) rmX8_becomes (va_Pc [.ref (gz g + a0), .int a1, .int a2] (AtP g N ln S)) (QI g N ln post) 0 0 (gF g) := by
  refine m_of (by decide) (Nat.le_of_ble_eq_true rfl) ?_
  intro p e s m below meth c ls F hr I hl
  have hl : lv_has ls 4 [(0, .ref (gz g + a0)), (1, .int a1), (2, .int a2)] := hl
  unfold wpX8_becomes at h
  refine lv_aload_n F.1 F.2.1 dX8_becomes_0 rfl (lv_at hl 0 rfl) ?_
  refine r_getN F I hr_a0 hk_a0 fX8_9 (f := 9) rfl (by decide) dX8_becomes_1 h (fun b1 hr_b1 hk_b1 h => ?_)
  refine lv_iload_n F.1 F.2.1 dX8_becomes_4 rfl (lv_at hl 1 rfl) ?_
  refine r_ald F I hr_b1 hk_b1 dX8_becomes_5 h (fun z2 h => ?_)
  refine lv_istore_n (lv' := [(3, .int z2), (0, .ref (gz g + a0)), (1, .int a1), (2, .int a2)]) F.1 F.2.1 dX8_becomes_6 rfl hl (by decide) rfl (fun ls hl => ?_)
  refine lv_aload_n F.1 F.2.1 dX8_becomes_7 rfl (lv_at hl 1 rfl) ?_
  refine r_getN F I hr_a0 hk_a0 fX8_9 (f := 9) rfl (by decide) dX8_becomes_8 h (fun b3 hr_b3 hk_b3 h => ?_)
  refine lv_iload_n F.1 F.2.1 dX8_becomes_11 rfl (lv_at hl 2 rfl) ?_
  refine lv_iload_n F.1 F.2.1 dX8_becomes_12 rfl (lv_at hl 3 rfl) ?_
  refine r_ast F I hr_b3 hk_b3 dX8_becomes_13 h (fun S H locs I h => ?_)
  refine lv_iload_n F.1 F.2.1 dX8_becomes_14 rfl (lv_at hl 0 rfl) ?_
  exact r_ireturn F I ⟨hr.1, hr.2.1, trivial⟩ h dX8_becomes_15
theorem bdX8_comes_0 : ∀ q ∈ ([(0, .aload_n 0, 1), (1, .getfield 9, 3), (4, .iconst 1, 1), (5, .iaload, 1), (6, .istore 6, 2), (8, .iconst 5, 1), (9, .bipush 6, 2), (11, .iload 6, 2), (13, .imul, 1), (14, .iadd, 1), (15, .istore 7, 2), (17, .aload_n 0, 1), (18, .getfield 9, 3), (21, .iload 7, 2), (23, .iload_n 1, 1), (24, .iastore, 1), (25, .aload_n 0, 1), (26, .getfield 9, 3), (29, .iload 7, 2), (31, .iconst 1, 1), (32, .iadd, 1), (33, .iload_n 2, 1), (34, .iastore, 1), (35, .aload_n 0, 1), (36, .getfield 9, 3), (39, .iload 7, 2), (41, .iconst 2, 1), (42, .iadd, 1), (43, .iload_n 3, 1), (44, .iastore, 1), (45, .aload_n 0, 1), (46, .getfield 9, 3), (49, .iload 7, 2), (51, .iconst 3, 1), (52, .iadd, 1), (53, .iload 4, 2), (55, .iastore, 1), (56, .aload_n 0, 1), (57, .getfield 9, 3), (60, .iload 7, 2)] : List (Nat × Jvm.ClassFile.Instr × Nat)), decode cX8_comes q.1 = .ok q.2 := chk_ok _ 0 _ rfl (by decide +kernel)
theorem dX8_comes_0 : decode cX8_comes 0 = .ok (.aload_n 0, 1) := bdX8_comes_0 (0, .aload_n 0, 1) (List.mem_of_getElem? (i := 0) rfl)
theorem dX8_comes_1 : decode cX8_comes 1 = .ok (.getfield 9, 3) := bdX8_comes_0 (1, .getfield 9, 3) (List.mem_of_getElem? (i := 1) rfl)
theorem dX8_comes_4 : decode cX8_comes 4 = .ok (.iconst 1, 1) := bdX8_comes_0 (4, .iconst 1, 1) (List.mem_of_getElem? (i := 2) rfl)
theorem dX8_comes_5 : decode cX8_comes 5 = .ok (.iaload, 1) := bdX8_comes_0 (5, .iaload, 1) (List.mem_of_getElem? (i := 3) rfl)
theorem dX8_comes_6 : decode cX8_comes 6 = .ok (.istore 6, 2) := bdX8_comes_0 (6, .istore 6, 2) (List.mem_of_getElem? (i := 4) rfl)
theorem dX8_comes_8 : decode cX8_comes 8 = .ok (.iconst 5, 1) := bdX8_comes_0 (8, .iconst 5, 1) (List.mem_of_getElem? (i := 5) rfl)
theorem dX8_comes_9 : decode cX8_comes 9 = .ok (.bipush 6, 2) := bdX8_comes_0 (9, .bipush 6, 2) (List.mem_of_getElem? (i := 6) rfl)
theorem dX8_comes_11 : decode cX8_comes 11 = .ok (.iload 6, 2) := bdX8_comes_0 (11, .iload 6, 2) (List.mem_of_getElem? (i := 7) rfl)
theorem dX8_comes_13 : decode cX8_comes 13 = .ok (.imul, 1) := bdX8_comes_0 (13, .imul, 1) (List.mem_of_getElem? (i := 8) rfl)
theorem dX8_comes_14 : decode cX8_comes 14 = .ok (.iadd, 1) := bdX8_comes_0 (14, .iadd, 1) (List.mem_of_getElem? (i := 9) rfl)
theorem dX8_comes_15 : decode cX8_comes 15 = .ok (.istore 7, 2) := bdX8_comes_0 (15, .istore 7, 2) (List.mem_of_getElem? (i := 10) rfl)
theorem dX8_comes_17 : decode cX8_comes 17 = .ok (.aload_n 0, 1) := bdX8_comes_0 (17, .aload_n 0, 1) (List.mem_of_getElem? (i := 11) rfl)
theorem dX8_comes_18 : decode cX8_comes 18 = .ok (.getfield 9, 3) := bdX8_comes_0 (18, .getfield 9, 3) (List.mem_of_getElem? (i := 12) rfl)
theorem dX8_comes_21 : decode cX8_comes 21 = .ok (.iload 7, 2) := bdX8_comes_0 (21, .iload 7, 2) (List.mem_of_getElem? (i := 13) rfl)
theorem dX8_comes_23 : decode cX8_comes 23 = .ok (.iload_n 1, 1) := bdX8_comes_0 (23, .iload_n 1, 1) (List.mem_of_getElem? (i := 14) rfl)
theorem dX8_comes_24 : decode cX8_comes 24 = .ok (.iastore, 1) := bdX8_comes_0 (24, .iastore, 1) (List.mem_of_getElem? (i := 15) rfl)
theorem dX8_comes_25 : decode cX8_comes 25 = .ok (.aload_n 0, 1) := bdX8_comes_0 (25, .aload_n 0, 1) (List.mem_of_getElem? (i := 16) rfl)
theorem dX8_comes_26 : decode cX8_comes 26 = .ok (.getfield 9, 3) := bdX8_comes_0 (26, .getfield 9, 3) (List.mem_of_getElem? (i := 17) rfl)
theorem dX8_comes_29 : decode cX8_comes 29 = .ok (.iload 7, 2) := bdX8_comes_0 (29, .iload 7, 2) (List.mem_of_getElem? (i := 18) rfl)
theorem dX8_comes_31 : decode cX8_comes 31 = .ok (.iconst 1, 1) := bdX8_comes_0 (31, .iconst 1, 1) (List.mem_of_getElem? (i := 19) rfl)
theorem dX8_comes_32 : decode cX8_comes 32 = .ok (.iadd, 1) := bdX8_comes_0 (32, .iadd, 1) (List.mem_of_getElem? (i := 20) rfl)
theorem dX8_comes_33 : decode cX8_comes 33 = .ok (.iload_n 2, 1) := bdX8_comes_0 (33, .iload_n 2, 1) (List.mem_of_getElem? (i := 21) rfl)
theorem dX8_comes_34 : decode cX8_comes 34 = .ok (.iastore, 1) := bdX8_comes_0 (34, .iastore, 1) (List.mem_of_getElem? (i := 22) rfl)
theorem dX8_comes_35 : decode cX8_comes 35 = .ok (.aload_n 0, 1) := bdX8_comes_0 (35, .aload_n 0, 1) (List.mem_of_getElem? (i := 23) rfl)
theorem dX8_comes_36 : decode cX8_comes 36 = .ok (.getfield 9, 3) := bdX8_comes_0 (36, .getfield 9, 3) (List.mem_of_getElem? (i := 24) rfl)
theorem dX8_comes_39 : decode cX8_comes 39 = .ok (.iload 7, 2) := bdX8_comes_0 (39, .iload 7, 2) (List.mem_of_getElem? (i := 25) rfl)
theorem dX8_comes_41 : decode cX8_comes 41 = .ok (.iconst 2, 1) := bdX8_comes_0 (41, .iconst 2, 1) (List.mem_of_getElem? (i := 26) rfl)
theorem dX8_comes_42 : decode cX8_comes 42 = .ok (.iadd, 1) := bdX8_comes_0 (42, .iadd, 1) (List.mem_of_getElem? (i := 27) rfl)
theorem dX8_comes_43 : decode cX8_comes 43 = .ok (.iload_n 3, 1) := bdX8_comes_0 (43, .iload_n 3, 1) (List.mem_of_getElem? (i := 28) rfl)
theorem dX8_comes_44 : decode cX8_comes 44 = .ok (.iastore, 1) := bdX8_comes_0 (44, .iastore, 1) (List.mem_of_getElem? (i := 29) rfl)
theorem dX8_comes_45 : decode cX8_comes 45 = .ok (.aload_n 0, 1) := bdX8_comes_0 (45, .aload_n 0, 1) (List.mem_of_getElem? (i := 30) rfl)
theorem dX8_comes_46 : decode cX8_comes 46 = .ok (.getfield 9, 3) := bdX8_comes_0 (46, .getfield 9, 3) (List.mem_of_getElem? (i := 31) rfl)
theorem dX8_comes_49 : decode cX8_comes 49 = .ok (.iload 7, 2) := bdX8_comes_0 (49, .iload 7, 2) (List.mem_of_getElem? (i := 32) rfl)
theorem dX8_comes_51 : decode cX8_comes 51 = .ok (.iconst 3, 1) := bdX8_comes_0 (51, .iconst 3, 1) (List.mem_of_getElem? (i := 33) rfl)
theorem dX8_comes_52 : decode cX8_comes 52 = .ok (.iadd, 1) := bdX8_comes_0 (52, .iadd, 1) (List.mem_of_getElem? (i := 34) rfl)
theorem dX8_comes_53 : decode cX8_comes 53 = .ok (.iload 4, 2) := bdX8_comes_0 (53, .iload 4, 2) (List.mem_of_getElem? (i := 35) rfl)
theorem dX8_comes_55 : decode cX8_comes 55 = .ok (.iastore, 1) := bdX8_comes_0 (55, .iastore, 1) (List.mem_of_getElem? (i := 36) rfl)
theorem dX8_comes_56 : decode cX8_comes 56 = .ok (.aload_n 0, 1) := bdX8_comes_0 (56, .aload_n 0, 1) (List.mem_of_getElem? (i := 37) rfl)
theorem dX8_comes_57 : decode cX8_comes 57 = .ok (.getfield 9, 3) := bdX8_comes_0 (57, .getfield 9, 3) (List.mem_of_getElem? (i := 38) rfl)
theorem dX8_comes_60 : decode cX8_comes 60 = .ok (.iload 7, 2) := bdX8_comes_0 (60, .iload 7, 2) (List.mem_of_getElem? (i := 39) rfl)
theorem bdX8_comes_62 : ∀ q ∈ ([(62, .iconst 4, 1), (63, .iadd, 1), (64, .iload 5, 2), (66, .iastore, 1), (67, .aload_n 0, 1), (68, .getfield 9, 3), (71, .iload 7, 2), (73, .iconst 5, 1), (74, .iadd, 1), (75, .iconst 0, 1), (76, .iastore, 1), (77, .aload_n 0, 1), (78, .getfield 9, 3), (81, .iconst 1, 1), (83, .iaload, 1), (84, .iconst 1, 1), (85, .iadd, 1), (86, .iastore, 1), (87, .iload 6, 2), (89, .ireturn, 1)] : List (Nat × Jvm.ClassFile.Instr × Nat)), decode cX8_comes q.1 = .ok q.2 := chk_ok _ 62 _ rfl (by decide +kernel)
theorem dX8_comes_62 : decode cX8_comes 62 = .ok (.iconst 4, 1) := bdX8_comes_62 (62, .iconst 4, 1) (List.mem_of_getElem? (i := 0) rfl)
theorem dX8_comes_63 : decode cX8_comes 63 = .ok (.iadd, 1) := bdX8_comes_62 (63, .iadd, 1) (List.mem_of_getElem? (i := 1) rfl)
theorem dX8_comes_64 : decode cX8_comes 64 = .ok (.iload 5, 2) := bdX8_comes_62 (64, .iload 5, 2) (List.mem_of_getElem? (i := 2) rfl)
theorem dX8_comes_66 : decode cX8_comes 66 = .ok (.iastore, 1) := bdX8_comes_62 (66, .iastore, 1) (List.mem_of_getElem? (i := 3) rfl)
theorem dX8_comes_67 : decode cX8_comes 67 = .ok (.aload_n 0, 1) := bdX8_comes_62 (67, .aload_n 0, 1) (List.mem_of_getElem? (i := 4) rfl)
theorem dX8_comes_68 : decode cX8_comes 68 = .ok (.getfield 9, 3) := bdX8_comes_62 (68, .getfield 9, 3) (List.mem_of_getElem? (i := 5) rfl)
theorem dX8_comes_71 : decode cX8_comes 71 = .ok (.iload 7, 2) := bdX8_comes_62 (71, .iload 7, 2) (List.mem_of_getElem? (i := 6) rfl)
theorem dX8_comes_73 : decode cX8_comes 73 = .ok (.iconst 5, 1) := bdX8_comes_62 (73, .iconst 5, 1) (List.mem_of_getElem? (i := 7) rfl)
theorem dX8_comes_74 : decode cX8_comes 74 = .ok (.iadd, 1) := bdX8_comes_62 (74, .iadd, 1) (List.mem_of_getElem? (i := 8) rfl)
theorem dX8_comes_75 : decode cX8_comes 75 = .ok (.iconst 0, 1) := bdX8_comes_62 (75, .iconst 0, 1) (List.mem_of_getElem? (i := 9) rfl)
theorem dX8_comes_76 : decode cX8_comes 76 = .ok (.iastore, 1) := bdX8_comes_62 (76, .iastore, 1) (List.mem_of_getElem? (i := 10) rfl)
theorem dX8_comes_77 : decode cX8_comes 77 = .ok (.aload_n 0, 1) := bdX8_comes_62 (77, .aload_n 0, 1) (List.mem_of_getElem? (i := 11) rfl)
theorem dX8_comes_78 : decode cX8_comes 78 = .ok (.getfield 9, 3) := bdX8_comes_62 (78, .getfield 9, 3) (List.mem_of_getElem? (i := 12) rfl)
theorem dX8_comes_81 : decode cX8_comes 81 = .ok (.iconst 1, 1) := bdX8_comes_62 (81, .iconst 1, 1) (List.mem_of_getElem? (i := 13) rfl)
theorem dX8_comes_83 : decode cX8_comes 83 = .ok (.iaload, 1) := bdX8_comes_62 (83, .iaload, 1) (List.mem_of_getElem? (i := 14) rfl)
theorem dX8_comes_84 : decode cX8_comes 84 = .ok (.iconst 1, 1) := bdX8_comes_62 (84, .iconst 1, 1) (List.mem_of_getElem? (i := 15) rfl)
theorem dX8_comes_85 : decode cX8_comes 85 = .ok (.iadd, 1) := bdX8_comes_62 (85, .iadd, 1) (List.mem_of_getElem? (i := 16) rfl)
theorem dX8_comes_86 : decode cX8_comes 86 = .ok (.iastore, 1) := bdX8_comes_62 (86, .iastore, 1) (List.mem_of_getElem? (i := 17) rfl)
theorem dX8_comes_87 : decode cX8_comes 87 = .ok (.iload 6, 2) := bdX8_comes_62 (87, .iload 6, 2) (List.mem_of_getElem? (i := 18) rfl)
theorem dX8_comes_89 : decode cX8_comes 89 = .ok (.ireturn, 1) := bdX8_comes_62 (89, .ireturn, 1) (List.mem_of_getElem? (i := 19) rfl)
theorem dX8_comes_82 : decode cX8_comes 82 = .ok (.dup2, 1) := by decide +kernel
def wpX8_comes (ln : Nat → Nat) (S : HC) (a0 : Nat) (a1 : Int32) (a2 : Int32) (a3 : Int32) (a4 : Int32) (a5 : Int32) (post : Int32 → HC → Prop) : Prop := dn_ (hR S a0 0) fun b1 => al_ (ln b1) (1 : Int32) (hI S b1) fun z2 => lt_ ((6 : Int32) * z2) fun z3 => lt_ ((5 : Int32) + z3) fun z4 => dn_ (hR S a0 0) fun b5 => as_ (ln b5) z4 (fun j => sI S b5 j a1) fun S => dn_ (hR S a0 0) fun b6 => lt_ (z4 + (1 : Int32)) fun z7 => as_ (ln b6) z7 (fun j => sI S b6 j a2) fun S => dn_ (hR S a0 0) fun b8 => lt_ (z4 + (2 : Int32)) fun z9 => as_ (ln b8) z9 (fun j => sI S b8 j a3) fun S => dn_ (hR S a0 0) fun b10 => lt_ (z4 + (3 : Int32)) fun z11 => as_ (ln b10) z11 (fun j => sI S b10 j a4) fun S => dn_ (hR S a0 0) fun b12 => lt_ (z4 + (4 : Int32)) fun z13 => as_ (ln b12) z13 (fun j => sI S b12 j a5) fun S => dn_ (hR S a0 0) fun b14 => lt_ (z4 + (5 : Int32)) fun z15 => as_ (ln b14) z15 (fun j => sI S b14 j (0 : Int32)) fun S => dn_ (hR S a0 0) fun b16 => al_ (ln b16) (1 : Int32) (hI S b16) fun z17 => lt_ (z17 + (1 : Int32)) fun z18 => as_ (ln b16) (1 : Int32) (fun j => sI S b16 j z18) fun S => post z2 S
abbrev rmX8_comes : Room := { frames := 0, cells := 0, slots := 0, locals := 0 }
set_option maxHeartbeats 4000000 in
set_option maxRecDepth 100000 in
theorem ctX8_comes {l : Launch} {g : GX} {N : Nat} {ln : Nat → Nat} {S : HC} {a0 : Nat} {a1 : Int32} {a2 : Int32} {a3 : Int32} {a4 : Int32} {a5 : Int32} {post : Int32 → HC → Prop} (hr_a0 : a0 < N) (hk_a0 : kd a0 = 8) (h : wpX8_comes ln S a0 a1 a2 a3 a4 a5 post) : Met l yX8_comes (Cond.code yX8_comes prog_10_method_10_code 8 (Option.some Jvm.ClassFile.FieldType.int) :: gtbl) rmX8_comes (va_Pc [.ref (gz g + a0), .int a1, .int a2, .int a3, .int a4, .int a5] (AtP g N ln S)) (QI g N ln post) 0 0 (gF g) := by
  refine m_of (by decide) (Nat.le_of_ble_eq_true rfl) ?_
  intro p e s m below meth c ls F hr I hl
  have hl : lv_has ls 8 [(0, .ref (gz g + a0)), (1, .int a1), (2, .int a2), (3, .int a3), (4, .int a4), (5, .int a5)] := hl
  unfold wpX8_comes at h
  refine lv_aload_n F.1 F.2.1 dX8_comes_0 rfl (lv_at hl 0 rfl) ?_
  refine r_getN F I hr_a0 hk_a0 fX8_9 (f := 9) rfl (by decide) dX8_comes_1 h (fun b1 hr_b1 hk_b1 h => ?_)
  refine lv_iconst (v := 1) F.1 F.2.1 dX8_comes_4 (by decide) ?_
  refine r_ald F I hr_b1 hk_b1 dX8_comes_5 h (fun z2 h => ?_)
  refine lv_istore (lv' := [(6, .int z2), (0, .ref (gz g + a0)), (1, .int a1), (2, .int a2), (3, .int a3), (4, .int a4), (5, .int a5)]) F.1 F.2.1 dX8_comes_6 hl (by decide) rfl (fun ls hl => ?_)
  refine lv_iconst (v := 5) F.1 F.2.1 dX8_comes_8 (by decide) ?_
  refine lv_bipush (v := 6) F.1 F.2.1 dX8_comes_9 (by decide) ?_
  refine lv_iload F.1 F.2.1 dX8_comes_11 (lv_at hl 0 rfl) ?_
  refine r_imul F dX8_comes_13 h (fun z3 h => ?_)
  refine r_iadd F dX8_comes_14 h (fun z4 h => ?_)
  refine lv_istore (lv' := [(7, .int z4), (6, .int z2), (0, .ref (gz g + a0)), (1, .int a1), (2, .int a2), (3, .int a3), (4, .int a4), (5, .int a5)]) F.1 F.2.1 dX8_comes_15 hl (by decide) rfl (fun ls hl => ?_)
  refine lv_aload_n F.1 F.2.1 dX8_comes_17 rfl (lv_at hl 2 rfl) ?_
  refine r_getN F I hr_a0 hk_a0 fX8_9 (f := 9) rfl (by decide) dX8_comes_18 h (fun b5 hr_b5 hk_b5 h => ?_)
  refine lv_iload F.1 F.2.1 dX8_comes_21 (lv_at hl 0 rfl) ?_
  refine lv_iload_n F.1 F.2.1 dX8_comes_23 rfl (lv_at hl 3 rfl) ?_
  refine r_ast F I hr_b5 hk_b5 dX8_comes_24 h (fun S H locs I h => ?_)
  refine lv_aload_n F.1 F.2.1 dX8_comes_25 rfl (lv_at hl 2 rfl) ?_
  refine r_getN F I hr_a0 hk_a0 fX8_9 (f := 9) rfl (by decide) dX8_comes_26 h (fun b6 hr_b6 hk_b6 h => ?_)
  refine lv_iload F.1 F.2.1 dX8_comes_29 (lv_at hl 0 rfl) ?_
  refine lv_iconst (v := 1) F.1 F.2.1 dX8_comes_31 (by decide) ?_
  refine r_iadd F dX8_comes_32 h (fun z7 h => ?_)
  refine lv_iload_n F.1 F.2.1 dX8_comes_33 rfl (lv_at hl 4 rfl) ?_
  refine r_ast F I hr_b6 hk_b6 dX8_comes_34 h (fun S H locs I h => ?_)
  refine lv_aload_n F.1 F.2.1 dX8_comes_35 rfl (lv_at hl 2 rfl) ?_
  refine r_getN F I hr_a0 hk_a0 fX8_9 (f := 9) rfl (by decide) dX8_comes_36 h (fun b8 hr_b8 hk_b8 h => ?_)
  refine lv_iload F.1 F.2.1 dX8_comes_39 (lv_at hl 0 rfl) ?_
  refine lv_iconst (v := 2) F.1 F.2.1 dX8_comes_41 (by decide) ?_
  refine r_iadd F dX8_comes_42 h (fun z9 h => ?_)
  refine lv_iload_n F.1 F.2.1 dX8_comes_43 rfl (lv_at hl 5 rfl) ?_
  refine r_ast F I hr_b8 hk_b8 dX8_comes_44 h (fun S H locs I h => ?_)
  refine lv_aload_n F.1 F.2.1 dX8_comes_45 rfl (lv_at hl 2 rfl) ?_
  refine r_getN F I hr_a0 hk_a0 fX8_9 (f := 9) rfl (by decide) dX8_comes_46 h (fun b10 hr_b10 hk_b10 h => ?_)
  refine lv_iload F.1 F.2.1 dX8_comes_49 (lv_at hl 0 rfl) ?_
  refine lv_iconst (v := 3) F.1 F.2.1 dX8_comes_51 (by decide) ?_
  refine r_iadd F dX8_comes_52 h (fun z11 h => ?_)
  refine lv_iload F.1 F.2.1 dX8_comes_53 (lv_at hl 6 rfl) ?_
  refine r_ast F I hr_b10 hk_b10 dX8_comes_55 h (fun S H locs I h => ?_)
  refine lv_aload_n F.1 F.2.1 dX8_comes_56 rfl (lv_at hl 2 rfl) ?_
  refine r_getN F I hr_a0 hk_a0 fX8_9 (f := 9) rfl (by decide) dX8_comes_57 h (fun b12 hr_b12 hk_b12 h => ?_)
  refine lv_iload F.1 F.2.1 dX8_comes_60 (lv_at hl 0 rfl) ?_
  refine lv_iconst (v := 4) F.1 F.2.1 dX8_comes_62 (by decide) ?_
  refine r_iadd F dX8_comes_63 h (fun z13 h => ?_)
  refine lv_iload F.1 F.2.1 dX8_comes_64 (lv_at hl 7 rfl) ?_
  refine r_ast F I hr_b12 hk_b12 dX8_comes_66 h (fun S H locs I h => ?_)
  refine lv_aload_n F.1 F.2.1 dX8_comes_67 rfl (lv_at hl 2 rfl) ?_
  refine r_getN F I hr_a0 hk_a0 fX8_9 (f := 9) rfl (by decide) dX8_comes_68 h (fun b14 hr_b14 hk_b14 h => ?_)
  refine lv_iload F.1 F.2.1 dX8_comes_71 (lv_at hl 0 rfl) ?_
  refine lv_iconst (v := 5) F.1 F.2.1 dX8_comes_73 (by decide) ?_
  refine r_iadd F dX8_comes_74 h (fun z15 h => ?_)
  refine lv_iconst (v := 0) F.1 F.2.1 dX8_comes_75 (by decide) ?_
  refine r_ast F I hr_b14 hk_b14 dX8_comes_76 h (fun S H locs I h => ?_)
  refine lv_aload_n F.1 F.2.1 dX8_comes_77 rfl (lv_at hl 2 rfl) ?_
  refine r_getN F I hr_a0 hk_a0 fX8_9 (f := 9) rfl (by decide) dX8_comes_78 h (fun b16 hr_b16 hk_b16 h => ?_)
  refine lv_iconst (v := 1) F.1 F.2.1 dX8_comes_81 (by decide) ?_
  refine lv_dup2_11 F.1 F.2.1 dX8_comes_82 rfl rfl ?_
  refine r_ald F I hr_b16 hk_b16 dX8_comes_83 h (fun z17 h => ?_)
  refine lv_iconst (v := 1) F.1 F.2.1 dX8_comes_84 (by decide) ?_
  refine r_iadd F dX8_comes_85 h (fun z18 h => ?_)
  refine r_ast F I hr_b16 hk_b16 dX8_comes_86 h (fun S H locs I h => ?_)
  refine lv_iload F.1 F.2.1 dX8_comes_87 (lv_at hl 1 rfl) ?_
  exact r_ireturn F I ⟨hr.1, hr.2.1, trivial⟩ h dX8_comes_89
theorem bdX8_mayBe_0 : ∀ q ∈ ([(0, .iload_n 1, 1), (1, .iconst (-1), 1), (2, .if_icmp .eq 21, 3), (5, .aload_n 0, 1), (6, .iload_n 1, 1), (7, .invokevirtual 83, 3), (10, .ifCond .eq 17, 3), (13, .aload_n 0, 1), (14, .iload_n 1, 1), (15, .iconst 3, 1), (16, .invokevirtual 87, 3), (19, .iload_n 2, 1), (20, .if_icmp .ne 7, 3), (23, .iconst 1, 1), (24, .goto 4, 3), (27, .iconst 0, 1), (28, .ireturn, 1)] : List (Nat × Jvm.ClassFile.Instr × Nat)), decode cX8_mayBe q.1 = .ok q.2 := chk_ok _ 0 _ rfl (by decide +kernel)
theorem dX8_mayBe_0 : decode cX8_mayBe 0 = .ok (.iload_n 1, 1) := bdX8_mayBe_0 (0, .iload_n 1, 1) (List.mem_of_getElem? (i := 0) rfl)
theorem dX8_mayBe_1 : decode cX8_mayBe 1 = .ok (.iconst (-1), 1) := bdX8_mayBe_0 (1, .iconst (-1), 1) (List.mem_of_getElem? (i := 1) rfl)
theorem dX8_mayBe_2 : decode cX8_mayBe 2 = .ok (.if_icmp .eq 21, 3) := bdX8_mayBe_0 (2, .if_icmp .eq 21, 3) (List.mem_of_getElem? (i := 2) rfl)
theorem dX8_mayBe_5 : decode cX8_mayBe 5 = .ok (.aload_n 0, 1) := bdX8_mayBe_0 (5, .aload_n 0, 1) (List.mem_of_getElem? (i := 3) rfl)
theorem dX8_mayBe_6 : decode cX8_mayBe 6 = .ok (.iload_n 1, 1) := bdX8_mayBe_0 (6, .iload_n 1, 1) (List.mem_of_getElem? (i := 4) rfl)
theorem dX8_mayBe_7 : decode cX8_mayBe 7 = .ok (.invokevirtual 83, 3) := bdX8_mayBe_0 (7, .invokevirtual 83, 3) (List.mem_of_getElem? (i := 5) rfl)
theorem dX8_mayBe_10 : decode cX8_mayBe 10 = .ok (.ifCond .eq 17, 3) := bdX8_mayBe_0 (10, .ifCond .eq 17, 3) (List.mem_of_getElem? (i := 6) rfl)
theorem dX8_mayBe_13 : decode cX8_mayBe 13 = .ok (.aload_n 0, 1) := bdX8_mayBe_0 (13, .aload_n 0, 1) (List.mem_of_getElem? (i := 7) rfl)
theorem dX8_mayBe_14 : decode cX8_mayBe 14 = .ok (.iload_n 1, 1) := bdX8_mayBe_0 (14, .iload_n 1, 1) (List.mem_of_getElem? (i := 8) rfl)
theorem dX8_mayBe_15 : decode cX8_mayBe 15 = .ok (.iconst 3, 1) := bdX8_mayBe_0 (15, .iconst 3, 1) (List.mem_of_getElem? (i := 9) rfl)
theorem dX8_mayBe_16 : decode cX8_mayBe 16 = .ok (.invokevirtual 87, 3) := bdX8_mayBe_0 (16, .invokevirtual 87, 3) (List.mem_of_getElem? (i := 10) rfl)
theorem dX8_mayBe_19 : decode cX8_mayBe 19 = .ok (.iload_n 2, 1) := bdX8_mayBe_0 (19, .iload_n 2, 1) (List.mem_of_getElem? (i := 11) rfl)
theorem dX8_mayBe_20 : decode cX8_mayBe 20 = .ok (.if_icmp .ne 7, 3) := bdX8_mayBe_0 (20, .if_icmp .ne 7, 3) (List.mem_of_getElem? (i := 12) rfl)
theorem dX8_mayBe_23 : decode cX8_mayBe 23 = .ok (.iconst 1, 1) := bdX8_mayBe_0 (23, .iconst 1, 1) (List.mem_of_getElem? (i := 13) rfl)
theorem dX8_mayBe_24 : decode cX8_mayBe 24 = .ok (.goto 4, 3) := bdX8_mayBe_0 (24, .goto 4, 3) (List.mem_of_getElem? (i := 14) rfl)
theorem dX8_mayBe_27 : decode cX8_mayBe 27 = .ok (.iconst 0, 1) := bdX8_mayBe_0 (27, .iconst 0, 1) (List.mem_of_getElem? (i := 15) rfl)
theorem dX8_mayBe_28 : decode cX8_mayBe 28 = .ok (.ireturn, 1) := bdX8_mayBe_0 (28, .ireturn, 1) (List.mem_of_getElem? (i := 16) rfl)
theorem kX8_83 : mthV RX8 83 8 yX8_isOne prog_10_method_6_code 2 (Option.some Jvm.ClassFile.FieldType.boolean) 1 := ⟨⟨⟨tw_1053, tw_67, tw_1056⟩, rfl, by decide +kernel⟩, tw_1055, tw_23, rfl⟩
theorem kX8_87 : mthV RX8 87 8 yX8_of prog_10_method_8_code 3 (Option.some Jvm.ClassFile.FieldType.int) 2 := ⟨⟨⟨tw_1057, tw_67, tw_1060⟩, rfl, by decide +kernel⟩, tw_1059, tw_24, rfl⟩
def BX8_mayBe_27 (ln : Nat → Nat) (post : Int32 → HC → Prop) (S : HC)  : Prop := rb_ .boolean (0 : Int32) (post (0 : Int32) S)
def BX8_mayBe_23 (ln : Nat → Nat) (post : Int32 → HC → Prop) (S : HC)  : Prop := rb_ .boolean (1 : Int32) (post (1 : Int32) S)
def wpX8_mayBe (ln : Nat → Nat) (S : HC) (a0 : Nat) (a1 : Int32) (a2 : Int32) (post : Int32 → HC → Prop) : Prop := if a1 = (-1 : Int32) then (BX8_mayBe_23 ln post S) else (wpX8_isOne ln S a0 a1 fun z1 S => if z1 = 0 then (BX8_mayBe_27 ln post S) else (wpX8_of ln S a0 a1 (3 : Int32) fun z2 S => if z2 = a2 then (BX8_mayBe_23 ln post S) else (BX8_mayBe_27 ln post S)))
abbrev rmX8_mayBe : Room := { frames := 2, cells := 0, slots := 0, locals := 43 }
set_option maxHeartbeats 4000000 in
set_option maxRecDepth 100000 in
theorem ctX8_mayBe {l : Launch} {g : GX} {N : Nat} {ln : Nat → Nat} {S : HC} {a0 : Nat} {a1 : Int32} {a2 : Int32} {post : Int32 → HC → Prop} (hr_a0 : a0 < N) (hk_a0 : kd a0 = 8) (h : wpX8_mayBe ln S a0 a1 a2 post) : Met l yX8_mayBe (Cond.code yX8_mayBe prog_10_method_11_code 3 (Option.some Jvm.ClassFile.FieldType.boolean) :: gtbl) rmX8_mayBe (va_Pc [.ref (gz g + a0), .int a1, .int a2] (AtP g N ln S)) (QI g N ln post) 0 0 (gF g) := by
  refine m_of (by decide) (Nat.le_of_ble_eq_true rfl) ?_
  intro p e s m below meth c ls F hr I hl
  have hl : lv_has ls 3 [(0, .ref (gz g + a0)), (1, .int a1), (2, .int a2)] := hl
  unfold wpX8_mayBe at h
  have hj_27 : ∀ (S : HC) (H : Heap) (locs : List Loc) (ls : Array Slot), BX8_mayBe_27 ln post S  → Inv g N ln S s H locs → lv_has ls 3 [] → W p l e rmX8_mayBe s m ([.ref (gz g + a0), .int a1, .int a2] : List Value).toArray below meth c H locs 0 0 (MQ below (QI g N ln post) ([.ref (gz g + a0), .int a1, .int a2] : List Value).toArray s 0 0 (gF g)) (F0 m 27 ls []) := by
    intro S H locs ls h I hl
    unfold BX8_mayBe_27 at h
    refine lv_iconst (v := 0) F.1 F.2.1 dX8_mayBe_27 (by decide) ?_
    exact r_zreturn F I ⟨hr.1, hr.2.1, trivial⟩ h dX8_mayBe_28
  have hj_23 : ∀ (S : HC) (H : Heap) (locs : List Loc) (ls : Array Slot), BX8_mayBe_23 ln post S  → Inv g N ln S s H locs → lv_has ls 3 [] → W p l e rmX8_mayBe s m ([.ref (gz g + a0), .int a1, .int a2] : List Value).toArray below meth c H locs 0 0 (MQ below (QI g N ln post) ([.ref (gz g + a0), .int a1, .int a2] : List Value).toArray s 0 0 (gF g)) (F0 m 23 ls []) := by
    intro S H locs ls h I hl
    unfold BX8_mayBe_23 at h
    refine lv_iconst (v := 1) F.1 F.2.1 dX8_mayBe_23 (by decide) ?_
    refine lv_goto (tgt := 28) F.1 F.2.1 dX8_mayBe_24 (by decide) ?_
    exact r_zreturn F I ⟨hr.1, hr.2.1, trivial⟩ h dX8_mayBe_28
  refine lv_iload_n F.1 F.2.1 dX8_mayBe_0 rfl (lv_at hl 1 rfl) ?_
  refine lv_iconst (v := -1) F.1 F.2.1 dX8_mayBe_1 (by decide) ?_
  refine r_icmp_eq (tgt := 23) F dX8_mayBe_2 (by decide) h (fun h => ?_) (fun h => ?_)
  · exact hj_23 S _ _ _   h I (lv_sub hl [] rfl)
  · refine lv_aload_n F.1 F.2.1 dX8_mayBe_5 rfl (lv_at hl 0 rfl) ?_
    refine lv_iload_n F.1 F.2.1 dX8_mayBe_6 rfl (lv_at hl 1 rfl) ?_
    refine g_I I (run_V (As := [.int a1]) (rest := []) F I hr_a0 hk_a0 (by decide) kX8_83 (ctX8_isOne hr_a0 hk_a0 h) ⟨rfl, rfl⟩ ⟨Nat.le_of_ble_eq_true rfl, Nat.le_of_ble_eq_true rfl⟩ rfl hl.1 rfl (Nat.le_of_ble_eq_true rfl) ⟨Nat.le_of_ble_eq_true rfl, Nat.le_of_ble_eq_true rfl⟩ dX8_mayBe_7) (fun z1 S H locs I h => ?_)
    refine r_if_eq (tgt := 27) F dX8_mayBe_10 (by decide) h (fun h => ?_) (fun h => ?_)
    · exact hj_27 S _ _ _   h I (lv_sub hl [] rfl)
    · refine lv_aload_n F.1 F.2.1 dX8_mayBe_13 rfl (lv_at hl 0 rfl) ?_
      refine lv_iload_n F.1 F.2.1 dX8_mayBe_14 rfl (lv_at hl 1 rfl) ?_
      refine lv_iconst (v := 3) F.1 F.2.1 dX8_mayBe_15 (by decide) ?_
      refine g_I I (run_V (As := [.int a1, .int (3 : Int32)]) (rest := []) F I hr_a0 hk_a0 (by decide) kX8_87 (ctX8_of hr_a0 hk_a0 h) ⟨rfl, rfl⟩ ⟨Nat.le_of_ble_eq_true rfl, Nat.le_of_ble_eq_true rfl⟩ rfl hl.1 rfl (Nat.le_of_ble_eq_true rfl) ⟨Nat.le_of_ble_eq_true rfl, Nat.le_of_ble_eq_true rfl⟩ dX8_mayBe_16) (fun z2 S H locs I h => ?_)
      refine lv_iload_n F.1 F.2.1 dX8_mayBe_19 rfl (lv_at hl 2 rfl) ?_
      refine r_icmp_ne (tgt := 27) F dX8_mayBe_20 (by decide) h (fun h => ?_) (fun h => ?_)
      · exact hj_27 S _ _ _   h I (lv_sub hl [] rfl)
      · exact hj_23 S _ _ _   h I (lv_sub hl [] rfl)
theorem bdX8_person_0 : ∀ q ∈ ([(0, .iload_n 1, 1), (1, .iconst 0, 1), (2, .iconst 5, 1), (3, .invokestatic 79, 3), (6, .ifCond .eq 39, 3), (9, .aload_n 0, 1), (10, .iload_n 2, 1), (11, .iconst 0, 1), (12, .invokevirtual 91, 3), (15, .ifCond .eq 30, 3), (18, .aload_n 0, 1), (19, .iload_n 3, 1), (20, .iconst 1, 1), (21, .invokevirtual 91, 3), (24, .ifCond .eq 21, 3), (27, .iload 4, 2), (29, .iconst 0, 1), (30, .iconst 1, 1), (31, .invokestatic 79, 3), (34, .ifCond .eq 11, 3), (37, .iload 5, 2), (39, .invokestatic 95, 3), (42, .ifCond .ne 6, 3), (45, .ldc 98, 2), (47, .ireturn, 1), (48, .aload_n 0, 1), (49, .getfield 9, 3), (52, .iconst 1, 1), (53, .iaload, 1), (54, .bipush 14, 2), (56, .if_icmp .ne 8, 3), (59, .ldc 99, 2), (61, .goto 14, 3), (64, .aload_n 0, 1), (65, .iload_n 1, 1), (66, .iload_n 2, 1), (67, .iload_n 3, 1), (68, .iload 4, 2), (70, .iload 5, 2), (72, .invokevirtual 100, 3)] : List (Nat × Jvm.ClassFile.Instr × Nat)), decode cX8_person q.1 = .ok q.2 := chk_ok _ 0 _ rfl (by decide +kernel)
theorem dX8_person_0 : decode cX8_person 0 = .ok (.iload_n 1, 1) := bdX8_person_0 (0, .iload_n 1, 1) (List.mem_of_getElem? (i := 0) rfl)
theorem dX8_person_1 : decode cX8_person 1 = .ok (.iconst 0, 1) := bdX8_person_0 (1, .iconst 0, 1) (List.mem_of_getElem? (i := 1) rfl)
theorem dX8_person_2 : decode cX8_person 2 = .ok (.iconst 5, 1) := bdX8_person_0 (2, .iconst 5, 1) (List.mem_of_getElem? (i := 2) rfl)
theorem dX8_person_3 : decode cX8_person 3 = .ok (.invokestatic 79, 3) := bdX8_person_0 (3, .invokestatic 79, 3) (List.mem_of_getElem? (i := 3) rfl)
theorem dX8_person_6 : decode cX8_person 6 = .ok (.ifCond .eq 39, 3) := bdX8_person_0 (6, .ifCond .eq 39, 3) (List.mem_of_getElem? (i := 4) rfl)
theorem dX8_person_9 : decode cX8_person 9 = .ok (.aload_n 0, 1) := bdX8_person_0 (9, .aload_n 0, 1) (List.mem_of_getElem? (i := 5) rfl)
theorem dX8_person_10 : decode cX8_person 10 = .ok (.iload_n 2, 1) := bdX8_person_0 (10, .iload_n 2, 1) (List.mem_of_getElem? (i := 6) rfl)
theorem dX8_person_11 : decode cX8_person 11 = .ok (.iconst 0, 1) := bdX8_person_0 (11, .iconst 0, 1) (List.mem_of_getElem? (i := 7) rfl)
theorem dX8_person_12 : decode cX8_person 12 = .ok (.invokevirtual 91, 3) := bdX8_person_0 (12, .invokevirtual 91, 3) (List.mem_of_getElem? (i := 8) rfl)
theorem dX8_person_15 : decode cX8_person 15 = .ok (.ifCond .eq 30, 3) := bdX8_person_0 (15, .ifCond .eq 30, 3) (List.mem_of_getElem? (i := 9) rfl)
theorem dX8_person_18 : decode cX8_person 18 = .ok (.aload_n 0, 1) := bdX8_person_0 (18, .aload_n 0, 1) (List.mem_of_getElem? (i := 10) rfl)
theorem dX8_person_19 : decode cX8_person 19 = .ok (.iload_n 3, 1) := bdX8_person_0 (19, .iload_n 3, 1) (List.mem_of_getElem? (i := 11) rfl)
theorem dX8_person_20 : decode cX8_person 20 = .ok (.iconst 1, 1) := bdX8_person_0 (20, .iconst 1, 1) (List.mem_of_getElem? (i := 12) rfl)
theorem dX8_person_21 : decode cX8_person 21 = .ok (.invokevirtual 91, 3) := bdX8_person_0 (21, .invokevirtual 91, 3) (List.mem_of_getElem? (i := 13) rfl)
theorem dX8_person_24 : decode cX8_person 24 = .ok (.ifCond .eq 21, 3) := bdX8_person_0 (24, .ifCond .eq 21, 3) (List.mem_of_getElem? (i := 14) rfl)
theorem dX8_person_27 : decode cX8_person 27 = .ok (.iload 4, 2) := bdX8_person_0 (27, .iload 4, 2) (List.mem_of_getElem? (i := 15) rfl)
theorem dX8_person_29 : decode cX8_person 29 = .ok (.iconst 0, 1) := bdX8_person_0 (29, .iconst 0, 1) (List.mem_of_getElem? (i := 16) rfl)
theorem dX8_person_30 : decode cX8_person 30 = .ok (.iconst 1, 1) := bdX8_person_0 (30, .iconst 1, 1) (List.mem_of_getElem? (i := 17) rfl)
theorem dX8_person_31 : decode cX8_person 31 = .ok (.invokestatic 79, 3) := bdX8_person_0 (31, .invokestatic 79, 3) (List.mem_of_getElem? (i := 18) rfl)
theorem dX8_person_34 : decode cX8_person 34 = .ok (.ifCond .eq 11, 3) := bdX8_person_0 (34, .ifCond .eq 11, 3) (List.mem_of_getElem? (i := 19) rfl)
theorem dX8_person_37 : decode cX8_person 37 = .ok (.iload 5, 2) := bdX8_person_0 (37, .iload 5, 2) (List.mem_of_getElem? (i := 20) rfl)
theorem dX8_person_39 : decode cX8_person 39 = .ok (.invokestatic 95, 3) := bdX8_person_0 (39, .invokestatic 95, 3) (List.mem_of_getElem? (i := 21) rfl)
theorem dX8_person_42 : decode cX8_person 42 = .ok (.ifCond .ne 6, 3) := bdX8_person_0 (42, .ifCond .ne 6, 3) (List.mem_of_getElem? (i := 22) rfl)
theorem dX8_person_45 : decode cX8_person 45 = .ok (.ldc 98, 2) := bdX8_person_0 (45, .ldc 98, 2) (List.mem_of_getElem? (i := 23) rfl)
theorem dX8_person_47 : decode cX8_person 47 = .ok (.ireturn, 1) := bdX8_person_0 (47, .ireturn, 1) (List.mem_of_getElem? (i := 24) rfl)
theorem dX8_person_48 : decode cX8_person 48 = .ok (.aload_n 0, 1) := bdX8_person_0 (48, .aload_n 0, 1) (List.mem_of_getElem? (i := 25) rfl)
theorem dX8_person_49 : decode cX8_person 49 = .ok (.getfield 9, 3) := bdX8_person_0 (49, .getfield 9, 3) (List.mem_of_getElem? (i := 26) rfl)
theorem dX8_person_52 : decode cX8_person 52 = .ok (.iconst 1, 1) := bdX8_person_0 (52, .iconst 1, 1) (List.mem_of_getElem? (i := 27) rfl)
theorem dX8_person_53 : decode cX8_person 53 = .ok (.iaload, 1) := bdX8_person_0 (53, .iaload, 1) (List.mem_of_getElem? (i := 28) rfl)
theorem dX8_person_54 : decode cX8_person 54 = .ok (.bipush 14, 2) := bdX8_person_0 (54, .bipush 14, 2) (List.mem_of_getElem? (i := 29) rfl)
theorem dX8_person_56 : decode cX8_person 56 = .ok (.if_icmp .ne 8, 3) := bdX8_person_0 (56, .if_icmp .ne 8, 3) (List.mem_of_getElem? (i := 30) rfl)
theorem dX8_person_59 : decode cX8_person 59 = .ok (.ldc 99, 2) := bdX8_person_0 (59, .ldc 99, 2) (List.mem_of_getElem? (i := 31) rfl)
theorem dX8_person_61 : decode cX8_person 61 = .ok (.goto 14, 3) := bdX8_person_0 (61, .goto 14, 3) (List.mem_of_getElem? (i := 32) rfl)
theorem dX8_person_64 : decode cX8_person 64 = .ok (.aload_n 0, 1) := bdX8_person_0 (64, .aload_n 0, 1) (List.mem_of_getElem? (i := 33) rfl)
theorem dX8_person_65 : decode cX8_person 65 = .ok (.iload_n 1, 1) := bdX8_person_0 (65, .iload_n 1, 1) (List.mem_of_getElem? (i := 34) rfl)
theorem dX8_person_66 : decode cX8_person 66 = .ok (.iload_n 2, 1) := bdX8_person_0 (66, .iload_n 2, 1) (List.mem_of_getElem? (i := 35) rfl)
theorem dX8_person_67 : decode cX8_person 67 = .ok (.iload_n 3, 1) := bdX8_person_0 (67, .iload_n 3, 1) (List.mem_of_getElem? (i := 36) rfl)
theorem dX8_person_68 : decode cX8_person 68 = .ok (.iload 4, 2) := bdX8_person_0 (68, .iload 4, 2) (List.mem_of_getElem? (i := 37) rfl)
theorem dX8_person_70 : decode cX8_person 70 = .ok (.iload 5, 2) := bdX8_person_0 (70, .iload 5, 2) (List.mem_of_getElem? (i := 38) rfl)
theorem dX8_person_72 : decode cX8_person 72 = .ok (.invokevirtual 100, 3) := bdX8_person_0 (72, .invokevirtual 100, 3) (List.mem_of_getElem? (i := 39) rfl)
theorem bdX8_person_75 : ∀ q ∈ ([(75, .ireturn, 1)] : List (Nat × Jvm.ClassFile.Instr × Nat)), decode cX8_person q.1 = .ok q.2 := chk_ok _ 75 _ rfl (by decide +kernel)
theorem dX8_person_75 : decode cX8_person 75 = .ok (.ireturn, 1) := bdX8_person_75 (75, .ireturn, 1) (List.mem_of_getElem? (i := 0) rfl)
theorem kX8_91 : mthV RX8 91 8 yX8_mayBe prog_10_method_11_code 3 (Option.some Jvm.ClassFile.FieldType.boolean) 2 := ⟨⟨⟨tw_1049, tw_67, tw_1052⟩, rfl, by decide +kernel⟩, tw_1051, tw_22, rfl⟩
theorem kX8_95 : mthS RX8 95 yX8_isCharge prog_10_method_7_code 1 (Option.some Jvm.ClassFile.FieldType.boolean) 1 := ⟨⟨⟨tw_1061, tw_67, tw_1063⟩, rfl, by decide +kernel⟩, tw_1062⟩
theorem kX8_100 : mthV RX8 100 8 yX8_comes prog_10_method_10_code 8 (Option.some Jvm.ClassFile.FieldType.int) 5 := ⟨⟨⟨tw_1066, tw_67, tw_1069⟩, rfl, by decide +kernel⟩, tw_1068, tw_25, rfl⟩
def BX8_person_45 (ln : Nat → Nat) (post : Int32 → HC → Prop) (S : HC)  : Prop := post (-1000000001 : Int32) S
def wpX8_person (ln : Nat → Nat) (S : HC) (a0 : Nat) (a1 : Int32) (a2 : Int32) (a3 : Int32) (a4 : Int32) (a5 : Int32) (post : Int32 → HC → Prop) : Prop := wpX8_in ln S a1 (0 : Int32) (5 : Int32) fun z1 S => if z1 = 0 then (BX8_person_45 ln post S) else (wpX8_mayBe ln S a0 a2 (0 : Int32) fun z2 S => if z2 = 0 then (BX8_person_45 ln post S) else (wpX8_mayBe ln S a0 a3 (1 : Int32) fun z3 S => if z3 = 0 then (BX8_person_45 ln post S) else (wpX8_in ln S a4 (0 : Int32) (1 : Int32) fun z4 S => if z4 = 0 then (BX8_person_45 ln post S) else (wpX8_isCharge ln S a5 fun z5 S => if z5 = 0 then (BX8_person_45 ln post S) else (dn_ (hR S a0 0) fun b6 => al_ (ln b6) (1 : Int32) (hI S b6) fun z7 => if z7 = (14 : Int32) then (post (-1000000003 : Int32) S) else (wpX8_comes ln S a0 a1 a2 a3 a4 a5 fun z8 S => post z8 S))))))
abbrev rmX8_person : Room := { frames := 3, cells := 0, slots := 0, locals := 65 }
set_option maxHeartbeats 4000000 in
set_option maxRecDepth 100000 in
theorem ctX8_person {l : Launch} {g : GX} {N : Nat} {ln : Nat → Nat} {S : HC} {a0 : Nat} {a1 : Int32} {a2 : Int32} {a3 : Int32} {a4 : Int32} {a5 : Int32} {post : Int32 → HC → Prop} (hr_a0 : a0 < N) (hk_a0 : kd a0 = 8) (h : wpX8_person ln S a0 a1 a2 a3 a4 a5 post) : Met l yX8_person (Cond.code yX8_person prog_10_method_12_code 6 (Option.some Jvm.ClassFile.FieldType.int) :: gtbl) rmX8_person (va_Pc [.ref (gz g + a0), .int a1, .int a2, .int a3, .int a4, .int a5] (AtP g N ln S)) (QI g N ln post) 0 0 (gF g) := by
  refine m_of (by decide) (Nat.le_of_ble_eq_true rfl) ?_
  intro p e s m below meth c ls F hr I hl
  have hl : lv_has ls 6 [(0, .ref (gz g + a0)), (1, .int a1), (2, .int a2), (3, .int a3), (4, .int a4), (5, .int a5)] := hl
  unfold wpX8_person at h
  have hj_45 : ∀ (S : HC) (H : Heap) (locs : List Loc) (ls : Array Slot), BX8_person_45 ln post S  → Inv g N ln S s H locs → lv_has ls 6 [] → W p l e rmX8_person s m ([.ref (gz g + a0), .int a1, .int a2, .int a3, .int a4, .int a5] : List Value).toArray below meth c H locs 0 0 (MQ below (QI g N ln post) ([.ref (gz g + a0), .int a1, .int a2, .int a3, .int a4, .int a5] : List Value).toArray s 0 0 (gF g)) (F0 m 45 ls []) := by
    intro S H locs ls h I hl
    unfold BX8_person_45 at h
    refine lv_ldc F.1 F.2.1 F.2.2.2.1 (F.2.2.2.2 _ tw_1064) dX8_person_45 ?_
    exact r_ireturn F I ⟨hr.1, hr.2.1, trivial⟩ h dX8_person_47
  refine lv_iload_n F.1 F.2.1 dX8_person_0 rfl (lv_at hl 1 rfl) ?_
  refine lv_iconst (v := 0) F.1 F.2.1 dX8_person_1 (by decide) ?_
  refine lv_iconst (v := 5) F.1 F.2.1 dX8_person_2 (by decide) ?_
  refine g_I I (run_S (As := [.int a1, .int (0 : Int32), .int (5 : Int32)]) (rest := []) F I kX8_79 (ctX8_in h) ⟨rfl, rfl⟩ ⟨Nat.le_of_ble_eq_true rfl, Nat.le_of_ble_eq_true rfl⟩ rfl hl.1 rfl (Nat.le_of_ble_eq_true rfl) ⟨Nat.le_of_ble_eq_true rfl, Nat.le_of_ble_eq_true rfl⟩ dX8_person_3) (fun z1 S H locs I h => ?_)
  refine r_if_eq (tgt := 45) F dX8_person_6 (by decide) h (fun h => ?_) (fun h => ?_)
  · exact hj_45 S _ _ _   h I (lv_sub hl [] rfl)
  · refine lv_aload_n F.1 F.2.1 dX8_person_9 rfl (lv_at hl 0 rfl) ?_
    refine lv_iload_n F.1 F.2.1 dX8_person_10 rfl (lv_at hl 2 rfl) ?_
    refine lv_iconst (v := 0) F.1 F.2.1 dX8_person_11 (by decide) ?_
    refine g_I I (run_V (As := [.int a2, .int (0 : Int32)]) (rest := []) F I hr_a0 hk_a0 (by decide) kX8_91 (ctX8_mayBe hr_a0 hk_a0 h) ⟨rfl, rfl⟩ ⟨Nat.le_of_ble_eq_true rfl, Nat.le_of_ble_eq_true rfl⟩ rfl hl.1 rfl (Nat.le_of_ble_eq_true rfl) ⟨Nat.le_of_ble_eq_true rfl, Nat.le_of_ble_eq_true rfl⟩ dX8_person_12) (fun z2 S H locs I h => ?_)
    refine r_if_eq (tgt := 45) F dX8_person_15 (by decide) h (fun h => ?_) (fun h => ?_)
    · exact hj_45 S _ _ _   h I (lv_sub hl [] rfl)
    · refine lv_aload_n F.1 F.2.1 dX8_person_18 rfl (lv_at hl 0 rfl) ?_
      refine lv_iload_n F.1 F.2.1 dX8_person_19 rfl (lv_at hl 3 rfl) ?_
      refine lv_iconst (v := 1) F.1 F.2.1 dX8_person_20 (by decide) ?_
      refine g_I I (run_V (As := [.int a3, .int (1 : Int32)]) (rest := []) F I hr_a0 hk_a0 (by decide) kX8_91 (ctX8_mayBe hr_a0 hk_a0 h) ⟨rfl, rfl⟩ ⟨Nat.le_of_ble_eq_true rfl, Nat.le_of_ble_eq_true rfl⟩ rfl hl.1 rfl (Nat.le_of_ble_eq_true rfl) ⟨Nat.le_of_ble_eq_true rfl, Nat.le_of_ble_eq_true rfl⟩ dX8_person_21) (fun z3 S H locs I h => ?_)
      refine r_if_eq (tgt := 45) F dX8_person_24 (by decide) h (fun h => ?_) (fun h => ?_)
      · exact hj_45 S _ _ _   h I (lv_sub hl [] rfl)
      · refine lv_iload F.1 F.2.1 dX8_person_27 (lv_at hl 4 rfl) ?_
        refine lv_iconst (v := 0) F.1 F.2.1 dX8_person_29 (by decide) ?_
        refine lv_iconst (v := 1) F.1 F.2.1 dX8_person_30 (by decide) ?_
        refine g_I I (run_S (As := [.int a4, .int (0 : Int32), .int (1 : Int32)]) (rest := []) F I kX8_79 (ctX8_in h) ⟨rfl, rfl⟩ ⟨Nat.le_of_ble_eq_true rfl, Nat.le_of_ble_eq_true rfl⟩ rfl hl.1 rfl (Nat.le_of_ble_eq_true rfl) ⟨Nat.le_of_ble_eq_true rfl, Nat.le_of_ble_eq_true rfl⟩ dX8_person_31) (fun z4 S H locs I h => ?_)
        refine r_if_eq (tgt := 45) F dX8_person_34 (by decide) h (fun h => ?_) (fun h => ?_)
        · exact hj_45 S _ _ _   h I (lv_sub hl [] rfl)
        · refine lv_iload F.1 F.2.1 dX8_person_37 (lv_at hl 5 rfl) ?_
          refine g_I I (run_S (As := [.int a5]) (rest := []) F I kX8_95 (ctX8_isCharge h) ⟨rfl, rfl⟩ ⟨Nat.le_of_ble_eq_true rfl, Nat.le_of_ble_eq_true rfl⟩ rfl hl.1 rfl (Nat.le_of_ble_eq_true rfl) ⟨Nat.le_of_ble_eq_true rfl, Nat.le_of_ble_eq_true rfl⟩ dX8_person_39) (fun z5 S H locs I h => ?_)
          refine r_if_ne (tgt := 48) F dX8_person_42 (by decide) h (fun h => ?_) (fun h => ?_)
          · refine lv_aload_n F.1 F.2.1 dX8_person_48 rfl (lv_at hl 0 rfl) ?_
            refine r_getN F I hr_a0 hk_a0 fX8_9 (f := 9) rfl (by decide) dX8_person_49 h (fun b6 hr_b6 hk_b6 h => ?_)
            refine lv_iconst (v := 1) F.1 F.2.1 dX8_person_52 (by decide) ?_
            refine r_ald F I hr_b6 hk_b6 dX8_person_53 h (fun z7 h => ?_)
            refine lv_bipush (v := 14) F.1 F.2.1 dX8_person_54 (by decide) ?_
            refine r_icmp_ne (tgt := 64) F dX8_person_56 (by decide) h (fun h => ?_) (fun h => ?_)
            · refine lv_aload_n F.1 F.2.1 dX8_person_64 rfl (lv_at hl 0 rfl) ?_
              refine lv_iload_n F.1 F.2.1 dX8_person_65 rfl (lv_at hl 1 rfl) ?_
              refine lv_iload_n F.1 F.2.1 dX8_person_66 rfl (lv_at hl 2 rfl) ?_
              refine lv_iload_n F.1 F.2.1 dX8_person_67 rfl (lv_at hl 3 rfl) ?_
              refine lv_iload F.1 F.2.1 dX8_person_68 (lv_at hl 4 rfl) ?_
              refine lv_iload F.1 F.2.1 dX8_person_70 (lv_at hl 5 rfl) ?_
              refine g_I I (run_V (As := [.int a1, .int a2, .int a3, .int a4, .int a5]) (rest := []) F I hr_a0 hk_a0 (by decide) kX8_100 (ctX8_comes hr_a0 hk_a0 h) ⟨rfl, rfl⟩ ⟨Nat.le_of_ble_eq_true rfl, Nat.le_of_ble_eq_true rfl⟩ rfl hl.1 rfl (Nat.le_of_ble_eq_true rfl) ⟨Nat.le_of_ble_eq_true rfl, Nat.le_of_ble_eq_true rfl⟩ dX8_person_72) (fun z8 S H locs I h => ?_)
              exact r_ireturn F I ⟨hr.1, hr.2.1, trivial⟩ h dX8_person_75
            · refine lv_ldc F.1 F.2.1 F.2.2.2.1 (F.2.2.2.2 _ tw_1065) dX8_person_59 ?_
              refine lv_goto (tgt := 75) F.1 F.2.1 dX8_person_61 (by decide) ?_
              exact r_ireturn F I ⟨hr.1, hr.2.1, trivial⟩ h dX8_person_75
          · exact hj_45 S _ _ _   h I (lv_sub hl [] rfl)
theorem bdX8_isHeiress_0 : ∀ q ∈ ([(0, .aload_n 0, 1), (1, .iload_n 1, 1), (2, .iconst 3, 1), (3, .invokevirtual 87, 3), (6, .iconst 1, 1), (7, .if_icmp .ne 7, 3), (10, .iconst 1, 1), (11, .goto 4, 3), (14, .iconst 0, 1), (15, .istore_n 2, 1), (16, .iconst 0, 1), (17, .istore_n 3, 1), (18, .iload_n 3, 1), (19, .aload_n 0, 1), (20, .getfield 9, 3), (23, .iconst 1, 1), (24, .iaload, 1), (25, .if_icmp .ge 52, 3), (28, .iload_n 2, 1), (29, .ifCond .eq 40, 3), (32, .aload_n 0, 1), (33, .iload_n 3, 1), (34, .iconst 3, 1), (35, .invokevirtual 87, 3), (38, .ifCond .ne 27, 3), (41, .aload_n 0, 1), (42, .iload_n 1, 1), (43, .iconst 1, 1), (44, .invokevirtual 87, 3), (47, .ifCond .lt 18, 3), (50, .aload_n 0, 1), (51, .iload_n 3, 1), (52, .iconst 1, 1), (53, .invokevirtual 87, 3), (56, .aload_n 0, 1), (57, .iload_n 1, 1), (58, .iconst 1, 1), (59, .invokevirtual 87, 3), (62, .if_icmp .eq 7, 3), (65, .iconst 1, 1)] : List (Nat × Jvm.ClassFile.Instr × Nat)), decode cX8_isHeiress q.1 = .ok q.2 := chk_ok _ 0 _ rfl (by decide +kernel)
theorem dX8_isHeiress_0 : decode cX8_isHeiress 0 = .ok (.aload_n 0, 1) := bdX8_isHeiress_0 (0, .aload_n 0, 1) (List.mem_of_getElem? (i := 0) rfl)
theorem dX8_isHeiress_1 : decode cX8_isHeiress 1 = .ok (.iload_n 1, 1) := bdX8_isHeiress_0 (1, .iload_n 1, 1) (List.mem_of_getElem? (i := 1) rfl)
theorem dX8_isHeiress_2 : decode cX8_isHeiress 2 = .ok (.iconst 3, 1) := bdX8_isHeiress_0 (2, .iconst 3, 1) (List.mem_of_getElem? (i := 2) rfl)
theorem dX8_isHeiress_3 : decode cX8_isHeiress 3 = .ok (.invokevirtual 87, 3) := bdX8_isHeiress_0 (3, .invokevirtual 87, 3) (List.mem_of_getElem? (i := 3) rfl)
theorem dX8_isHeiress_6 : decode cX8_isHeiress 6 = .ok (.iconst 1, 1) := bdX8_isHeiress_0 (6, .iconst 1, 1) (List.mem_of_getElem? (i := 4) rfl)
theorem dX8_isHeiress_7 : decode cX8_isHeiress 7 = .ok (.if_icmp .ne 7, 3) := bdX8_isHeiress_0 (7, .if_icmp .ne 7, 3) (List.mem_of_getElem? (i := 5) rfl)
theorem dX8_isHeiress_10 : decode cX8_isHeiress 10 = .ok (.iconst 1, 1) := bdX8_isHeiress_0 (10, .iconst 1, 1) (List.mem_of_getElem? (i := 6) rfl)
theorem dX8_isHeiress_11 : decode cX8_isHeiress 11 = .ok (.goto 4, 3) := bdX8_isHeiress_0 (11, .goto 4, 3) (List.mem_of_getElem? (i := 7) rfl)
theorem dX8_isHeiress_14 : decode cX8_isHeiress 14 = .ok (.iconst 0, 1) := bdX8_isHeiress_0 (14, .iconst 0, 1) (List.mem_of_getElem? (i := 8) rfl)
theorem dX8_isHeiress_15 : decode cX8_isHeiress 15 = .ok (.istore_n 2, 1) := bdX8_isHeiress_0 (15, .istore_n 2, 1) (List.mem_of_getElem? (i := 9) rfl)
theorem dX8_isHeiress_16 : decode cX8_isHeiress 16 = .ok (.iconst 0, 1) := bdX8_isHeiress_0 (16, .iconst 0, 1) (List.mem_of_getElem? (i := 10) rfl)
theorem dX8_isHeiress_17 : decode cX8_isHeiress 17 = .ok (.istore_n 3, 1) := bdX8_isHeiress_0 (17, .istore_n 3, 1) (List.mem_of_getElem? (i := 11) rfl)
theorem dX8_isHeiress_18 : decode cX8_isHeiress 18 = .ok (.iload_n 3, 1) := bdX8_isHeiress_0 (18, .iload_n 3, 1) (List.mem_of_getElem? (i := 12) rfl)
theorem dX8_isHeiress_19 : decode cX8_isHeiress 19 = .ok (.aload_n 0, 1) := bdX8_isHeiress_0 (19, .aload_n 0, 1) (List.mem_of_getElem? (i := 13) rfl)
theorem dX8_isHeiress_20 : decode cX8_isHeiress 20 = .ok (.getfield 9, 3) := bdX8_isHeiress_0 (20, .getfield 9, 3) (List.mem_of_getElem? (i := 14) rfl)
theorem dX8_isHeiress_23 : decode cX8_isHeiress 23 = .ok (.iconst 1, 1) := bdX8_isHeiress_0 (23, .iconst 1, 1) (List.mem_of_getElem? (i := 15) rfl)
theorem dX8_isHeiress_24 : decode cX8_isHeiress 24 = .ok (.iaload, 1) := bdX8_isHeiress_0 (24, .iaload, 1) (List.mem_of_getElem? (i := 16) rfl)
theorem dX8_isHeiress_25 : decode cX8_isHeiress 25 = .ok (.if_icmp .ge 52, 3) := bdX8_isHeiress_0 (25, .if_icmp .ge 52, 3) (List.mem_of_getElem? (i := 17) rfl)
theorem dX8_isHeiress_28 : decode cX8_isHeiress 28 = .ok (.iload_n 2, 1) := bdX8_isHeiress_0 (28, .iload_n 2, 1) (List.mem_of_getElem? (i := 18) rfl)
theorem dX8_isHeiress_29 : decode cX8_isHeiress 29 = .ok (.ifCond .eq 40, 3) := bdX8_isHeiress_0 (29, .ifCond .eq 40, 3) (List.mem_of_getElem? (i := 19) rfl)
theorem dX8_isHeiress_32 : decode cX8_isHeiress 32 = .ok (.aload_n 0, 1) := bdX8_isHeiress_0 (32, .aload_n 0, 1) (List.mem_of_getElem? (i := 20) rfl)
theorem dX8_isHeiress_33 : decode cX8_isHeiress 33 = .ok (.iload_n 3, 1) := bdX8_isHeiress_0 (33, .iload_n 3, 1) (List.mem_of_getElem? (i := 21) rfl)
theorem dX8_isHeiress_34 : decode cX8_isHeiress 34 = .ok (.iconst 3, 1) := bdX8_isHeiress_0 (34, .iconst 3, 1) (List.mem_of_getElem? (i := 22) rfl)
theorem dX8_isHeiress_35 : decode cX8_isHeiress 35 = .ok (.invokevirtual 87, 3) := bdX8_isHeiress_0 (35, .invokevirtual 87, 3) (List.mem_of_getElem? (i := 23) rfl)
theorem dX8_isHeiress_38 : decode cX8_isHeiress 38 = .ok (.ifCond .ne 27, 3) := bdX8_isHeiress_0 (38, .ifCond .ne 27, 3) (List.mem_of_getElem? (i := 24) rfl)
theorem dX8_isHeiress_41 : decode cX8_isHeiress 41 = .ok (.aload_n 0, 1) := bdX8_isHeiress_0 (41, .aload_n 0, 1) (List.mem_of_getElem? (i := 25) rfl)
theorem dX8_isHeiress_42 : decode cX8_isHeiress 42 = .ok (.iload_n 1, 1) := bdX8_isHeiress_0 (42, .iload_n 1, 1) (List.mem_of_getElem? (i := 26) rfl)
theorem dX8_isHeiress_43 : decode cX8_isHeiress 43 = .ok (.iconst 1, 1) := bdX8_isHeiress_0 (43, .iconst 1, 1) (List.mem_of_getElem? (i := 27) rfl)
theorem dX8_isHeiress_44 : decode cX8_isHeiress 44 = .ok (.invokevirtual 87, 3) := bdX8_isHeiress_0 (44, .invokevirtual 87, 3) (List.mem_of_getElem? (i := 28) rfl)
theorem dX8_isHeiress_47 : decode cX8_isHeiress 47 = .ok (.ifCond .lt 18, 3) := bdX8_isHeiress_0 (47, .ifCond .lt 18, 3) (List.mem_of_getElem? (i := 29) rfl)
theorem dX8_isHeiress_50 : decode cX8_isHeiress 50 = .ok (.aload_n 0, 1) := bdX8_isHeiress_0 (50, .aload_n 0, 1) (List.mem_of_getElem? (i := 30) rfl)
theorem dX8_isHeiress_51 : decode cX8_isHeiress 51 = .ok (.iload_n 3, 1) := bdX8_isHeiress_0 (51, .iload_n 3, 1) (List.mem_of_getElem? (i := 31) rfl)
theorem dX8_isHeiress_52 : decode cX8_isHeiress 52 = .ok (.iconst 1, 1) := bdX8_isHeiress_0 (52, .iconst 1, 1) (List.mem_of_getElem? (i := 32) rfl)
theorem dX8_isHeiress_53 : decode cX8_isHeiress 53 = .ok (.invokevirtual 87, 3) := bdX8_isHeiress_0 (53, .invokevirtual 87, 3) (List.mem_of_getElem? (i := 33) rfl)
theorem dX8_isHeiress_56 : decode cX8_isHeiress 56 = .ok (.aload_n 0, 1) := bdX8_isHeiress_0 (56, .aload_n 0, 1) (List.mem_of_getElem? (i := 34) rfl)
theorem dX8_isHeiress_57 : decode cX8_isHeiress 57 = .ok (.iload_n 1, 1) := bdX8_isHeiress_0 (57, .iload_n 1, 1) (List.mem_of_getElem? (i := 35) rfl)
theorem dX8_isHeiress_58 : decode cX8_isHeiress 58 = .ok (.iconst 1, 1) := bdX8_isHeiress_0 (58, .iconst 1, 1) (List.mem_of_getElem? (i := 36) rfl)
theorem dX8_isHeiress_59 : decode cX8_isHeiress 59 = .ok (.invokevirtual 87, 3) := bdX8_isHeiress_0 (59, .invokevirtual 87, 3) (List.mem_of_getElem? (i := 37) rfl)
theorem dX8_isHeiress_62 : decode cX8_isHeiress 62 = .ok (.if_icmp .eq 7, 3) := bdX8_isHeiress_0 (62, .if_icmp .eq 7, 3) (List.mem_of_getElem? (i := 38) rfl)
theorem dX8_isHeiress_65 : decode cX8_isHeiress 65 = .ok (.iconst 1, 1) := bdX8_isHeiress_0 (65, .iconst 1, 1) (List.mem_of_getElem? (i := 39) rfl)
theorem bdX8_isHeiress_66 : ∀ q ∈ ([(66, .goto 4, 3), (69, .iconst 0, 1), (70, .istore_n 2, 1), (71, .iinc 3 1, 3), (74, .goto (-56), 3), (77, .iload_n 2, 1), (78, .ireturn, 1)] : List (Nat × Jvm.ClassFile.Instr × Nat)), decode cX8_isHeiress q.1 = .ok q.2 := chk_ok _ 66 _ rfl (by decide +kernel)
theorem dX8_isHeiress_66 : decode cX8_isHeiress 66 = .ok (.goto 4, 3) := bdX8_isHeiress_66 (66, .goto 4, 3) (List.mem_of_getElem? (i := 0) rfl)
theorem dX8_isHeiress_69 : decode cX8_isHeiress 69 = .ok (.iconst 0, 1) := bdX8_isHeiress_66 (69, .iconst 0, 1) (List.mem_of_getElem? (i := 1) rfl)
theorem dX8_isHeiress_70 : decode cX8_isHeiress 70 = .ok (.istore_n 2, 1) := bdX8_isHeiress_66 (70, .istore_n 2, 1) (List.mem_of_getElem? (i := 2) rfl)
theorem dX8_isHeiress_71 : decode cX8_isHeiress 71 = .ok (.iinc 3 1, 3) := bdX8_isHeiress_66 (71, .iinc 3 1, 3) (List.mem_of_getElem? (i := 3) rfl)
theorem dX8_isHeiress_74 : decode cX8_isHeiress 74 = .ok (.goto (-56), 3) := bdX8_isHeiress_66 (74, .goto (-56), 3) (List.mem_of_getElem? (i := 4) rfl)
theorem dX8_isHeiress_77 : decode cX8_isHeiress 77 = .ok (.iload_n 2, 1) := bdX8_isHeiress_66 (77, .iload_n 2, 1) (List.mem_of_getElem? (i := 5) rfl)
theorem dX8_isHeiress_78 : decode cX8_isHeiress 78 = .ok (.ireturn, 1) := bdX8_isHeiress_66 (78, .ireturn, 1) (List.mem_of_getElem? (i := 6) rfl)
def BX8_isHeiress_70 (ln : Nat → Nat) (post : Int32 → HC → Prop) (K18 : HC → Nat → Int32 → Int32 → Int32 → Prop) (S : HC) (x0 : Nat) (x1 : Int32) (x3 : Int32) (t0 : Int32) : Prop := lt_ (x3 + (1 : Int32)) fun z1 => K18 S x0 x1 t0 z1
def BX8_isHeiress_69 (ln : Nat → Nat) (post : Int32 → HC → Prop) (K18 : HC → Nat → Int32 → Int32 → Int32 → Prop) (S : HC) (x0 : Nat) (x1 : Int32) (x3 : Int32) : Prop := BX8_isHeiress_70 ln post K18 S x0 x1 x3 (0 : Int32)
def BX8_isHeiress_65 (ln : Nat → Nat) (post : Int32 → HC → Prop) (K18 : HC → Nat → Int32 → Int32 → Int32 → Prop) (S : HC) (x0 : Nat) (x1 : Int32) (x3 : Int32) : Prop := BX8_isHeiress_70 ln post K18 S x0 x1 x3 (1 : Int32)
def LX8_isHeiress_18 (ln : Nat → Nat) (post : Int32 → HC → Prop) : Nat → HC → Nat → Int32 → Int32 → Int32 → Prop
  | 0 => fun _ _ _ _ _ => False
  | n18 + 1 => fun S x0 x1 x2 x3 => dn_ (hR S x0 0) fun b2 => al_ (ln b2) (1 : Int32) (hI S b2) fun z3 => if z3 ≤ x3 then (rb_ .boolean x2 (post x2 S)) else (if x2 = 0 then (BX8_isHeiress_69 ln post (LX8_isHeiress_18 ln post n18) S x0 x1 x3) else (wpX8_of ln S x0 x3 (3 : Int32) fun z4 S => if z4 = 0 then (wpX8_of ln S x0 x1 (1 : Int32) fun z5 S => if z5 < 0 then (BX8_isHeiress_65 ln post (LX8_isHeiress_18 ln post n18) S x0 x1 x3) else (wpX8_of ln S x0 x3 (1 : Int32) fun z6 S => wpX8_of ln S x0 x1 (1 : Int32) fun z7 S => if z6 = z7 then (BX8_isHeiress_69 ln post (LX8_isHeiress_18 ln post n18) S x0 x1 x3) else (BX8_isHeiress_65 ln post (LX8_isHeiress_18 ln post n18) S x0 x1 x3))) else (BX8_isHeiress_65 ln post (LX8_isHeiress_18 ln post n18) S x0 x1 x3)))
def BX8_isHeiress_15 (ln : Nat → Nat) (post : Int32 → HC → Prop) (S : HC) (x0 : Nat) (x1 : Int32) (t0 : Int32) : Prop := ∃ n18, LX8_isHeiress_18 ln post n18 S x0 x1 t0 (0 : Int32)
def wpX8_isHeiress (ln : Nat → Nat) (S : HC) (a0 : Nat) (a1 : Int32) (post : Int32 → HC → Prop) : Prop := wpX8_of ln S a0 a1 (3 : Int32) fun z8 S => if z8 = (1 : Int32) then (BX8_isHeiress_15 ln post S a0 a1 (1 : Int32)) else (BX8_isHeiress_15 ln post S a0 a1 (0 : Int32))
abbrev rmX8_isHeiress : Room := { frames := 1, cells := 0, slots := 0, locals := 22 }
set_option maxHeartbeats 4000000 in
set_option maxRecDepth 100000 in
theorem ctX8_isHeiress {l : Launch} {g : GX} {N : Nat} {ln : Nat → Nat} {S : HC} {a0 : Nat} {a1 : Int32} {post : Int32 → HC → Prop} (hr_a0 : a0 < N) (hk_a0 : kd a0 = 8) (h : wpX8_isHeiress ln S a0 a1 post) : Met l yX8_isHeiress (Cond.code yX8_isHeiress prog_10_method_13_code 4 (Option.some Jvm.ClassFile.FieldType.boolean) :: gtbl) rmX8_isHeiress (va_Pc [.ref (gz g + a0), .int a1] (AtP g N ln S)) (QI g N ln post) 0 0 (gF g) := by
  refine m_of (by decide) (Nat.le_of_ble_eq_true rfl) ?_
  intro p e s m below meth c ls F hr I hl
  have hl : lv_has ls 4 [(0, .ref (gz g + a0)), (1, .int a1)] := hl
  unfold wpX8_isHeiress at h
  have hl_18 : ∀ n18 : Nat, ∀ (S : HC) (H : Heap) (locs : List Loc) (ls : Array Slot) (x0 : Nat) (x1 : Int32) (x2 : Int32) (x3 : Int32), x0 < N → kd x0 = 8 → LX8_isHeiress_18 ln post n18 S x0 x1 x2 x3 → Inv g N ln S s H locs → lv_has ls 4 [(0, .ref (gz g + x0)), (1, .int x1), (2, .int x2), (3, .int x3)] → W p l e rmX8_isHeiress s m ([.ref (gz g + a0), .int a1] : List Value).toArray below meth c H locs 0 0 (MQ below (QI g N ln post) ([.ref (gz g + a0), .int a1] : List Value).toArray s 0 0 (gF g)) (F0 m 18 ls []) := by
    intro n18
    induction n18 with
    | zero =>
      intro S H locs ls x0 x1 x2 x3 hr_x0 hk_x0 h I hl
      exact h.elim
    | succ n18 ih =>
      have hk18 := ih
      have hj_70 : ∀ (S : HC) (H : Heap) (locs : List Loc) (ls : Array Slot) (x0 : Nat) (x1 : Int32) (x3 : Int32) (t0 : Int32), x0 < N → kd x0 = 8 → BX8_isHeiress_70 ln post (LX8_isHeiress_18 ln post n18) S x0 x1 x3 t0 → Inv g N ln S s H locs → lv_has ls 4 [(0, .ref (gz g + x0)), (1, .int x1), (3, .int x3)] → W p l e rmX8_isHeiress s m ([.ref (gz g + a0), .int a1] : List Value).toArray below meth c H locs 0 0 (MQ below (QI g N ln post) ([.ref (gz g + a0), .int a1] : List Value).toArray s 0 0 (gF g)) (F0 m 70 ls [.int t0]) := by
        intro S H locs ls x0 x1 x3 t0 hr_x0 hk_x0 h I hl
        unfold BX8_isHeiress_70 at h
        refine lv_istore_n (lv' := [(2, .int t0), (0, .ref (gz g + x0)), (1, .int x1), (3, .int x3)]) F.1 F.2.1 dX8_isHeiress_70 rfl hl (by decide) rfl (fun ls hl => ?_)
        obtain ⟨z1, e_z1, h⟩ := lt_x h
        refine lv_iinc (v := z1) (lv' := [(3, .int z1), (2, .int t0), (0, .ref (gz g + x0)), (1, .int x1)]) F.1 F.2.1 dX8_isHeiress_71 hl (k := 3) rfl (by rw [e_z1]; rfl) (by decide) rfl (fun ls hl => ?_)
        refine lv_goto (tgt := 18) F.1 F.2.1 dX8_isHeiress_74 (by decide) ?_
        exact hk18 S _ _ _ x0 x1 t0 z1 hr_x0 hk_x0 h I (lv_sub hl [2, 3, 1, 0] rfl)
      have hj_69 : ∀ (S : HC) (H : Heap) (locs : List Loc) (ls : Array Slot) (x0 : Nat) (x1 : Int32) (x3 : Int32), x0 < N → kd x0 = 8 → BX8_isHeiress_69 ln post (LX8_isHeiress_18 ln post n18) S x0 x1 x3 → Inv g N ln S s H locs → lv_has ls 4 [(0, .ref (gz g + x0)), (1, .int x1), (3, .int x3)] → W p l e rmX8_isHeiress s m ([.ref (gz g + a0), .int a1] : List Value).toArray below meth c H locs 0 0 (MQ below (QI g N ln post) ([.ref (gz g + a0), .int a1] : List Value).toArray s 0 0 (gF g)) (F0 m 69 ls []) := by
        intro S H locs ls x0 x1 x3 hr_x0 hk_x0 h I hl
        unfold BX8_isHeiress_69 at h
        refine lv_iconst (v := 0) F.1 F.2.1 dX8_isHeiress_69 (by decide) ?_
        exact hj_70 S _ _ _ x0 x1 x3 (0 : Int32) hr_x0 hk_x0 h I (lv_sub hl [0, 1, 2] rfl)
      have hj_65 : ∀ (S : HC) (H : Heap) (locs : List Loc) (ls : Array Slot) (x0 : Nat) (x1 : Int32) (x3 : Int32), x0 < N → kd x0 = 8 → BX8_isHeiress_65 ln post (LX8_isHeiress_18 ln post n18) S x0 x1 x3 → Inv g N ln S s H locs → lv_has ls 4 [(0, .ref (gz g + x0)), (1, .int x1), (3, .int x3)] → W p l e rmX8_isHeiress s m ([.ref (gz g + a0), .int a1] : List Value).toArray below meth c H locs 0 0 (MQ below (QI g N ln post) ([.ref (gz g + a0), .int a1] : List Value).toArray s 0 0 (gF g)) (F0 m 65 ls []) := by
        intro S H locs ls x0 x1 x3 hr_x0 hk_x0 h I hl
        unfold BX8_isHeiress_65 at h
        refine lv_iconst (v := 1) F.1 F.2.1 dX8_isHeiress_65 (by decide) ?_
        refine lv_goto (tgt := 70) F.1 F.2.1 dX8_isHeiress_66 (by decide) ?_
        exact hj_70 S _ _ _ x0 x1 x3 (1 : Int32) hr_x0 hk_x0 h I (lv_sub hl [0, 1, 2] rfl)
      intro S H locs ls x0 x1 x2 x3 hr_x0 hk_x0 h I hl
      rw [LX8_isHeiress_18] at h
      refine lv_iload_n F.1 F.2.1 dX8_isHeiress_18 rfl (lv_at hl 3 rfl) ?_
      refine lv_aload_n F.1 F.2.1 dX8_isHeiress_19 rfl (lv_at hl 0 rfl) ?_
      refine r_getN F I hr_x0 hk_x0 fX8_9 (f := 9) rfl (by decide) dX8_isHeiress_20 h (fun b2 hr_b2 hk_b2 h => ?_)
      refine lv_iconst (v := 1) F.1 F.2.1 dX8_isHeiress_23 (by decide) ?_
      refine r_ald F I hr_b2 hk_b2 dX8_isHeiress_24 h (fun z3 h => ?_)
      refine r_icmp_ge (tgt := 77) F dX8_isHeiress_25 (by decide) h (fun h => ?_) (fun h => ?_)
      · refine lv_iload_n F.1 F.2.1 dX8_isHeiress_77 rfl (lv_at hl 2 rfl) ?_
        exact r_zreturn F I ⟨hr.1, hr.2.1, trivial⟩ h dX8_isHeiress_78
      · refine lv_iload_n F.1 F.2.1 dX8_isHeiress_28 rfl (lv_at hl 2 rfl) ?_
        refine r_if_eq (tgt := 69) F dX8_isHeiress_29 (by decide) h (fun h => ?_) (fun h => ?_)
        · exact hj_69 S _ _ _ x0 x1 x3 hr_x0 hk_x0 h I (lv_sub hl [0, 1, 3] rfl)
        · refine lv_aload_n F.1 F.2.1 dX8_isHeiress_32 rfl (lv_at hl 0 rfl) ?_
          refine lv_iload_n F.1 F.2.1 dX8_isHeiress_33 rfl (lv_at hl 3 rfl) ?_
          refine lv_iconst (v := 3) F.1 F.2.1 dX8_isHeiress_34 (by decide) ?_
          refine g_I I (run_V (As := [.int x3, .int (3 : Int32)]) (rest := []) F I hr_x0 hk_x0 (by decide) kX8_87 (ctX8_of hr_x0 hk_x0 h) ⟨rfl, rfl⟩ ⟨Nat.le_of_ble_eq_true rfl, Nat.le_of_ble_eq_true rfl⟩ rfl hl.1 rfl (Nat.le_of_ble_eq_true rfl) ⟨Nat.le_of_ble_eq_true rfl, Nat.le_of_ble_eq_true rfl⟩ dX8_isHeiress_35) (fun z4 S H locs I h => ?_)
          refine r_if_ne (tgt := 65) F dX8_isHeiress_38 (by decide) h (fun h => ?_) (fun h => ?_)
          · exact hj_65 S _ _ _ x0 x1 x3 hr_x0 hk_x0 h I (lv_sub hl [0, 1, 3] rfl)
          · refine lv_aload_n F.1 F.2.1 dX8_isHeiress_41 rfl (lv_at hl 0 rfl) ?_
            refine lv_iload_n F.1 F.2.1 dX8_isHeiress_42 rfl (lv_at hl 1 rfl) ?_
            refine lv_iconst (v := 1) F.1 F.2.1 dX8_isHeiress_43 (by decide) ?_
            refine g_I I (run_V (As := [.int x1, .int (1 : Int32)]) (rest := []) F I hr_x0 hk_x0 (by decide) kX8_87 (ctX8_of hr_x0 hk_x0 h) ⟨rfl, rfl⟩ ⟨Nat.le_of_ble_eq_true rfl, Nat.le_of_ble_eq_true rfl⟩ rfl hl.1 rfl (Nat.le_of_ble_eq_true rfl) ⟨Nat.le_of_ble_eq_true rfl, Nat.le_of_ble_eq_true rfl⟩ dX8_isHeiress_44) (fun z5 S H locs I h => ?_)
            refine r_if_lt (tgt := 65) F dX8_isHeiress_47 (by decide) h (fun h => ?_) (fun h => ?_)
            · exact hj_65 S _ _ _ x0 x1 x3 hr_x0 hk_x0 h I (lv_sub hl [0, 1, 3] rfl)
            · refine lv_aload_n F.1 F.2.1 dX8_isHeiress_50 rfl (lv_at hl 0 rfl) ?_
              refine lv_iload_n F.1 F.2.1 dX8_isHeiress_51 rfl (lv_at hl 3 rfl) ?_
              refine lv_iconst (v := 1) F.1 F.2.1 dX8_isHeiress_52 (by decide) ?_
              refine g_I I (run_V (As := [.int x3, .int (1 : Int32)]) (rest := []) F I hr_x0 hk_x0 (by decide) kX8_87 (ctX8_of hr_x0 hk_x0 h) ⟨rfl, rfl⟩ ⟨Nat.le_of_ble_eq_true rfl, Nat.le_of_ble_eq_true rfl⟩ rfl hl.1 rfl (Nat.le_of_ble_eq_true rfl) ⟨Nat.le_of_ble_eq_true rfl, Nat.le_of_ble_eq_true rfl⟩ dX8_isHeiress_53) (fun z6 S H locs I h => ?_)
              refine lv_aload_n F.1 F.2.1 dX8_isHeiress_56 rfl (lv_at hl 0 rfl) ?_
              refine lv_iload_n F.1 F.2.1 dX8_isHeiress_57 rfl (lv_at hl 1 rfl) ?_
              refine lv_iconst (v := 1) F.1 F.2.1 dX8_isHeiress_58 (by decide) ?_
              refine g_I I (run_V (As := [.int x1, .int (1 : Int32)]) (rest := [.int z6]) F I hr_x0 hk_x0 (by decide) kX8_87 (ctX8_of hr_x0 hk_x0 h) ⟨rfl, rfl⟩ ⟨Nat.le_of_ble_eq_true rfl, Nat.le_of_ble_eq_true rfl⟩ rfl hl.1 rfl (Nat.le_of_ble_eq_true rfl) ⟨Nat.le_of_ble_eq_true rfl, Nat.le_of_ble_eq_true rfl⟩ dX8_isHeiress_59) (fun z7 S H locs I h => ?_)
              refine r_icmp_eq (tgt := 69) F dX8_isHeiress_62 (by decide) h (fun h => ?_) (fun h => ?_)
              · exact hj_69 S _ _ _ x0 x1 x3 hr_x0 hk_x0 h I (lv_sub hl [0, 1, 3] rfl)
              · exact hj_65 S _ _ _ x0 x1 x3 hr_x0 hk_x0 h I (lv_sub hl [0, 1, 3] rfl)
  have hj_15 : ∀ (S : HC) (H : Heap) (locs : List Loc) (ls : Array Slot) (x0 : Nat) (x1 : Int32) (t0 : Int32), x0 < N → kd x0 = 8 → BX8_isHeiress_15 ln post S x0 x1 t0 → Inv g N ln S s H locs → lv_has ls 4 [(0, .ref (gz g + x0)), (1, .int x1)] → W p l e rmX8_isHeiress s m ([.ref (gz g + a0), .int a1] : List Value).toArray below meth c H locs 0 0 (MQ below (QI g N ln post) ([.ref (gz g + a0), .int a1] : List Value).toArray s 0 0 (gF g)) (F0 m 15 ls [.int t0]) := by
    intro S H locs ls x0 x1 t0 hr_x0 hk_x0 h I hl
    unfold BX8_isHeiress_15 at h
    refine lv_istore_n (lv' := [(2, .int t0), (0, .ref (gz g + x0)), (1, .int x1)]) F.1 F.2.1 dX8_isHeiress_15 rfl hl (by decide) rfl (fun ls hl => ?_)
    refine lv_iconst (v := 0) F.1 F.2.1 dX8_isHeiress_16 (by decide) ?_
    refine lv_istore_n (lv' := [(3, .int (0 : Int32)), (2, .int t0), (0, .ref (gz g + x0)), (1, .int x1)]) F.1 F.2.1 dX8_isHeiress_17 rfl hl (by decide) rfl (fun ls hl => ?_)
    obtain ⟨n18, h⟩ := h
    exact hl_18 n18 S _ _ _ x0 x1 t0 (0 : Int32) hr_x0 hk_x0 h I (lv_sub hl [2, 3, 1, 0] rfl)
  refine lv_aload_n F.1 F.2.1 dX8_isHeiress_0 rfl (lv_at hl 0 rfl) ?_
  refine lv_iload_n F.1 F.2.1 dX8_isHeiress_1 rfl (lv_at hl 1 rfl) ?_
  refine lv_iconst (v := 3) F.1 F.2.1 dX8_isHeiress_2 (by decide) ?_
  refine g_I I (run_V (As := [.int a1, .int (3 : Int32)]) (rest := []) F I hr_a0 hk_a0 (by decide) kX8_87 (ctX8_of hr_a0 hk_a0 h) ⟨rfl, rfl⟩ ⟨Nat.le_of_ble_eq_true rfl, Nat.le_of_ble_eq_true rfl⟩ rfl hl.1 rfl (Nat.le_of_ble_eq_true rfl) ⟨Nat.le_of_ble_eq_true rfl, Nat.le_of_ble_eq_true rfl⟩ dX8_isHeiress_3) (fun z8 S H locs I h => ?_)
  refine lv_iconst (v := 1) F.1 F.2.1 dX8_isHeiress_6 (by decide) ?_
  refine r_icmp_ne (tgt := 14) F dX8_isHeiress_7 (by decide) h (fun h => ?_) (fun h => ?_)
  · refine lv_iconst (v := 0) F.1 F.2.1 dX8_isHeiress_14 (by decide) ?_
    exact hj_15 S _ _ _ a0 a1 (0 : Int32) hr_a0 hk_a0 h I (lv_sub hl [0, 1] rfl)
  · refine lv_iconst (v := 1) F.1 F.2.1 dX8_isHeiress_10 (by decide) ?_
    refine lv_goto (tgt := 15) F.1 F.2.1 dX8_isHeiress_11 (by decide) ?_
    exact hj_15 S _ _ _ a0 a1 (1 : Int32) hr_a0 hk_a0 h I (lv_sub hl [0, 1] rfl)
theorem bdX8_worthOf_0 : ∀ q ∈ ([(0, .bipush 10, 2), (2, .aload_n 0, 1), (3, .iload_n 1, 1), (4, .iconst 4, 1), (5, .invokevirtual 87, 3), (8, .imul, 1), (9, .istore_n 2, 1), (10, .aload_n 0, 1), (11, .iload_n 1, 1), (12, .iconst 0, 1), (13, .invokevirtual 87, 3), (52, .iload_n 2, 1), (53, .bipush 6, 2), (55, .iadd, 1), (56, .ireturn, 1), (57, .bipush 99, 2), (59, .iload_n 2, 1), (60, .isub, 1), (61, .ireturn, 1), (62, .iconst 2, 1), (63, .iload_n 2, 1), (64, .bipush 6, 2), (66, .iadd, 1), (67, .imul, 1), (68, .ireturn, 1), (69, .bipush 91, 2), (71, .iload_n 2, 1), (72, .isub, 1), (73, .ireturn, 1), (74, .iconst 5, 1), (75, .ireturn, 1), (76, .iload_n 2, 1), (77, .ireturn, 1)] : List (Nat × Jvm.ClassFile.Instr × Nat)), decode cX8_worthOf q.1 = .ok q.2 := chk_ok _ 0 _ rfl (by decide +kernel)
theorem dX8_worthOf_0 : decode cX8_worthOf 0 = .ok (.bipush 10, 2) := bdX8_worthOf_0 (0, .bipush 10, 2) (List.mem_of_getElem? (i := 0) rfl)
theorem dX8_worthOf_2 : decode cX8_worthOf 2 = .ok (.aload_n 0, 1) := bdX8_worthOf_0 (2, .aload_n 0, 1) (List.mem_of_getElem? (i := 1) rfl)
theorem dX8_worthOf_3 : decode cX8_worthOf 3 = .ok (.iload_n 1, 1) := bdX8_worthOf_0 (3, .iload_n 1, 1) (List.mem_of_getElem? (i := 2) rfl)
theorem dX8_worthOf_4 : decode cX8_worthOf 4 = .ok (.iconst 4, 1) := bdX8_worthOf_0 (4, .iconst 4, 1) (List.mem_of_getElem? (i := 3) rfl)
theorem dX8_worthOf_5 : decode cX8_worthOf 5 = .ok (.invokevirtual 87, 3) := bdX8_worthOf_0 (5, .invokevirtual 87, 3) (List.mem_of_getElem? (i := 4) rfl)
theorem dX8_worthOf_8 : decode cX8_worthOf 8 = .ok (.imul, 1) := bdX8_worthOf_0 (8, .imul, 1) (List.mem_of_getElem? (i := 5) rfl)
theorem dX8_worthOf_9 : decode cX8_worthOf 9 = .ok (.istore_n 2, 1) := bdX8_worthOf_0 (9, .istore_n 2, 1) (List.mem_of_getElem? (i := 6) rfl)
theorem dX8_worthOf_10 : decode cX8_worthOf 10 = .ok (.aload_n 0, 1) := bdX8_worthOf_0 (10, .aload_n 0, 1) (List.mem_of_getElem? (i := 7) rfl)
theorem dX8_worthOf_11 : decode cX8_worthOf 11 = .ok (.iload_n 1, 1) := bdX8_worthOf_0 (11, .iload_n 1, 1) (List.mem_of_getElem? (i := 8) rfl)
theorem dX8_worthOf_12 : decode cX8_worthOf 12 = .ok (.iconst 0, 1) := bdX8_worthOf_0 (12, .iconst 0, 1) (List.mem_of_getElem? (i := 9) rfl)
theorem dX8_worthOf_13 : decode cX8_worthOf 13 = .ok (.invokevirtual 87, 3) := bdX8_worthOf_0 (13, .invokevirtual 87, 3) (List.mem_of_getElem? (i := 10) rfl)
theorem dX8_worthOf_52 : decode cX8_worthOf 52 = .ok (.iload_n 2, 1) := bdX8_worthOf_0 (52, .iload_n 2, 1) (List.mem_of_getElem? (i := 11) rfl)
theorem dX8_worthOf_53 : decode cX8_worthOf 53 = .ok (.bipush 6, 2) := bdX8_worthOf_0 (53, .bipush 6, 2) (List.mem_of_getElem? (i := 12) rfl)
theorem dX8_worthOf_55 : decode cX8_worthOf 55 = .ok (.iadd, 1) := bdX8_worthOf_0 (55, .iadd, 1) (List.mem_of_getElem? (i := 13) rfl)
theorem dX8_worthOf_56 : decode cX8_worthOf 56 = .ok (.ireturn, 1) := bdX8_worthOf_0 (56, .ireturn, 1) (List.mem_of_getElem? (i := 14) rfl)
theorem dX8_worthOf_57 : decode cX8_worthOf 57 = .ok (.bipush 99, 2) := bdX8_worthOf_0 (57, .bipush 99, 2) (List.mem_of_getElem? (i := 15) rfl)
theorem dX8_worthOf_59 : decode cX8_worthOf 59 = .ok (.iload_n 2, 1) := bdX8_worthOf_0 (59, .iload_n 2, 1) (List.mem_of_getElem? (i := 16) rfl)
theorem dX8_worthOf_60 : decode cX8_worthOf 60 = .ok (.isub, 1) := bdX8_worthOf_0 (60, .isub, 1) (List.mem_of_getElem? (i := 17) rfl)
theorem dX8_worthOf_61 : decode cX8_worthOf 61 = .ok (.ireturn, 1) := bdX8_worthOf_0 (61, .ireturn, 1) (List.mem_of_getElem? (i := 18) rfl)
theorem dX8_worthOf_62 : decode cX8_worthOf 62 = .ok (.iconst 2, 1) := bdX8_worthOf_0 (62, .iconst 2, 1) (List.mem_of_getElem? (i := 19) rfl)
theorem dX8_worthOf_63 : decode cX8_worthOf 63 = .ok (.iload_n 2, 1) := bdX8_worthOf_0 (63, .iload_n 2, 1) (List.mem_of_getElem? (i := 20) rfl)
theorem dX8_worthOf_64 : decode cX8_worthOf 64 = .ok (.bipush 6, 2) := bdX8_worthOf_0 (64, .bipush 6, 2) (List.mem_of_getElem? (i := 21) rfl)
theorem dX8_worthOf_66 : decode cX8_worthOf 66 = .ok (.iadd, 1) := bdX8_worthOf_0 (66, .iadd, 1) (List.mem_of_getElem? (i := 22) rfl)
theorem dX8_worthOf_67 : decode cX8_worthOf 67 = .ok (.imul, 1) := bdX8_worthOf_0 (67, .imul, 1) (List.mem_of_getElem? (i := 23) rfl)
theorem dX8_worthOf_68 : decode cX8_worthOf 68 = .ok (.ireturn, 1) := bdX8_worthOf_0 (68, .ireturn, 1) (List.mem_of_getElem? (i := 24) rfl)
theorem dX8_worthOf_69 : decode cX8_worthOf 69 = .ok (.bipush 91, 2) := bdX8_worthOf_0 (69, .bipush 91, 2) (List.mem_of_getElem? (i := 25) rfl)
theorem dX8_worthOf_71 : decode cX8_worthOf 71 = .ok (.iload_n 2, 1) := bdX8_worthOf_0 (71, .iload_n 2, 1) (List.mem_of_getElem? (i := 26) rfl)
theorem dX8_worthOf_72 : decode cX8_worthOf 72 = .ok (.isub, 1) := bdX8_worthOf_0 (72, .isub, 1) (List.mem_of_getElem? (i := 27) rfl)
theorem dX8_worthOf_73 : decode cX8_worthOf 73 = .ok (.ireturn, 1) := bdX8_worthOf_0 (73, .ireturn, 1) (List.mem_of_getElem? (i := 28) rfl)
theorem dX8_worthOf_74 : decode cX8_worthOf 74 = .ok (.iconst 5, 1) := bdX8_worthOf_0 (74, .iconst 5, 1) (List.mem_of_getElem? (i := 29) rfl)
theorem dX8_worthOf_75 : decode cX8_worthOf 75 = .ok (.ireturn, 1) := bdX8_worthOf_0 (75, .ireturn, 1) (List.mem_of_getElem? (i := 30) rfl)
theorem dX8_worthOf_76 : decode cX8_worthOf 76 = .ok (.iload_n 2, 1) := bdX8_worthOf_0 (76, .iload_n 2, 1) (List.mem_of_getElem? (i := 31) rfl)
theorem dX8_worthOf_77 : decode cX8_worthOf 77 = .ok (.ireturn, 1) := bdX8_worthOf_0 (77, .ireturn, 1) (List.mem_of_getElem? (i := 32) rfl)
theorem dX8_worthOf_16 : decode cX8_worthOf 16 = .ok (.tableswitch 60 1 5 #[36, 41, 46, 53, 58], 36) := by decide +kernel
def wpX8_worthOf (ln : Nat → Nat) (S : HC) (a0 : Nat) (a1 : Int32) (post : Int32 → HC → Prop) : Prop := wpX8_of ln S a0 a1 (4 : Int32) fun z1 S => lt_ ((10 : Int32) * z1) fun z2 => wpX8_of ln S a0 a1 (0 : Int32) fun z3 S => if z3 = (1 : Int32) then (lt_ (z2 + (6 : Int32)) fun z4 => post z4 S) else if z3 = (2 : Int32) then (lt_ ((99 : Int32) - z2) fun z5 => post z5 S) else if z3 = (3 : Int32) then (lt_ (z2 + (6 : Int32)) fun z6 => lt_ ((2 : Int32) * z6) fun z7 => post z7 S) else if z3 = (4 : Int32) then (lt_ ((91 : Int32) - z2) fun z8 => post z8 S) else if z3 = (5 : Int32) then (post (5 : Int32) S) else post z2 S
abbrev rmX8_worthOf : Room := { frames := 1, cells := 0, slots := 0, locals := 22 }
set_option maxHeartbeats 4000000 in
set_option maxRecDepth 100000 in
theorem ctX8_worthOf {l : Launch} {g : GX} {N : Nat} {ln : Nat → Nat} {S : HC} {a0 : Nat} {a1 : Int32} {post : Int32 → HC → Prop} (hr_a0 : a0 < N) (hk_a0 : kd a0 = 8) (h : wpX8_worthOf ln S a0 a1 post) : Met l yX8_worthOf (Cond.code yX8_worthOf prog_10_method_14_code 3 (Option.some Jvm.ClassFile.FieldType.int) :: gtbl) rmX8_worthOf (va_Pc [.ref (gz g + a0), .int a1] (AtP g N ln S)) (QI g N ln post) 0 0 (gF g) := by
  refine m_of (by decide) (Nat.le_of_ble_eq_true rfl) ?_
  intro p e s m below meth c ls F hr I hl
  have hl : lv_has ls 3 [(0, .ref (gz g + a0)), (1, .int a1)] := hl
  unfold wpX8_worthOf at h
  refine lv_bipush (v := 10) F.1 F.2.1 dX8_worthOf_0 (by decide) ?_
  refine lv_aload_n F.1 F.2.1 dX8_worthOf_2 rfl (lv_at hl 0 rfl) ?_
  refine lv_iload_n F.1 F.2.1 dX8_worthOf_3 rfl (lv_at hl 1 rfl) ?_
  refine lv_iconst (v := 4) F.1 F.2.1 dX8_worthOf_4 (by decide) ?_
  refine g_I I (run_V (As := [.int a1, .int (4 : Int32)]) (rest := [.int (10 : Int32)]) F I hr_a0 hk_a0 (by decide) kX8_87 (ctX8_of hr_a0 hk_a0 h) ⟨rfl, rfl⟩ ⟨Nat.le_of_ble_eq_true rfl, Nat.le_of_ble_eq_true rfl⟩ rfl hl.1 rfl (Nat.le_of_ble_eq_true rfl) ⟨Nat.le_of_ble_eq_true rfl, Nat.le_of_ble_eq_true rfl⟩ dX8_worthOf_5) (fun z1 S H locs I h => ?_)
  refine r_imul F dX8_worthOf_8 h (fun z2 h => ?_)
  refine lv_istore_n (lv' := [(2, .int z2), (0, .ref (gz g + a0)), (1, .int a1)]) F.1 F.2.1 dX8_worthOf_9 rfl hl (by decide) rfl (fun ls hl => ?_)
  refine lv_aload_n F.1 F.2.1 dX8_worthOf_10 rfl (lv_at hl 1 rfl) ?_
  refine lv_iload_n F.1 F.2.1 dX8_worthOf_11 rfl (lv_at hl 2 rfl) ?_
  refine lv_iconst (v := 0) F.1 F.2.1 dX8_worthOf_12 (by decide) ?_
  refine g_I I (run_V (As := [.int a1, .int (0 : Int32)]) (rest := []) F I hr_a0 hk_a0 (by decide) kX8_87 (ctX8_of hr_a0 hk_a0 h) ⟨rfl, rfl⟩ ⟨Nat.le_of_ble_eq_true rfl, Nat.le_of_ble_eq_true rfl⟩ rfl hl.1 rfl (Nat.le_of_ble_eq_true rfl) ⟨Nat.le_of_ble_eq_true rfl, Nat.le_of_ble_eq_true rfl⟩ dX8_worthOf_13) (fun z3 S H locs I h => ?_)
  by_cases c0 : z3 = (1 : Int32)
  · rw [if_pos c0] at h
    refine lv_tableIn (off := 36) (tgt := 52) F.1 F.2.1 dX8_worthOf_16 (by rw [c0]; decide) (by rw [c0]; decide) (by rw [c0]; rfl) (by decide) ?_
    refine lv_iload_n F.1 F.2.1 dX8_worthOf_52 rfl (lv_at hl 0 rfl) ?_
    refine lv_bipush (v := 6) F.1 F.2.1 dX8_worthOf_53 (by decide) ?_
    refine r_iadd F dX8_worthOf_55 h (fun z4 h => ?_)
    exact r_ireturn F I ⟨hr.1, hr.2.1, trivial⟩ h dX8_worthOf_56
  · rw [if_neg c0] at h
    by_cases c1 : z3 = (2 : Int32)
    · rw [if_pos c1] at h
      refine lv_tableIn (off := 41) (tgt := 57) F.1 F.2.1 dX8_worthOf_16 (by rw [c1]; decide) (by rw [c1]; decide) (by rw [c1]; rfl) (by decide) ?_
      refine lv_bipush (v := 99) F.1 F.2.1 dX8_worthOf_57 (by decide) ?_
      refine lv_iload_n F.1 F.2.1 dX8_worthOf_59 rfl (lv_at hl 0 rfl) ?_
      refine r_isub F dX8_worthOf_60 h (fun z5 h => ?_)
      exact r_ireturn F I ⟨hr.1, hr.2.1, trivial⟩ h dX8_worthOf_61
    · rw [if_neg c1] at h
      by_cases c2 : z3 = (3 : Int32)
      · rw [if_pos c2] at h
        refine lv_tableIn (off := 46) (tgt := 62) F.1 F.2.1 dX8_worthOf_16 (by rw [c2]; decide) (by rw [c2]; decide) (by rw [c2]; rfl) (by decide) ?_
        refine lv_iconst (v := 2) F.1 F.2.1 dX8_worthOf_62 (by decide) ?_
        refine lv_iload_n F.1 F.2.1 dX8_worthOf_63 rfl (lv_at hl 0 rfl) ?_
        refine lv_bipush (v := 6) F.1 F.2.1 dX8_worthOf_64 (by decide) ?_
        refine r_iadd F dX8_worthOf_66 h (fun z6 h => ?_)
        refine r_imul F dX8_worthOf_67 h (fun z7 h => ?_)
        exact r_ireturn F I ⟨hr.1, hr.2.1, trivial⟩ h dX8_worthOf_68
      · rw [if_neg c2] at h
        by_cases c3 : z3 = (4 : Int32)
        · rw [if_pos c3] at h
          refine lv_tableIn (off := 53) (tgt := 69) F.1 F.2.1 dX8_worthOf_16 (by rw [c3]; decide) (by rw [c3]; decide) (by rw [c3]; rfl) (by decide) ?_
          refine lv_bipush (v := 91) F.1 F.2.1 dX8_worthOf_69 (by decide) ?_
          refine lv_iload_n F.1 F.2.1 dX8_worthOf_71 rfl (lv_at hl 0 rfl) ?_
          refine r_isub F dX8_worthOf_72 h (fun z8 h => ?_)
          exact r_ireturn F I ⟨hr.1, hr.2.1, trivial⟩ h dX8_worthOf_73
        · rw [if_neg c3] at h
          by_cases c4 : z3 = (5 : Int32)
          · rw [if_pos c4] at h
            refine lv_tableIn (off := 58) (tgt := 74) F.1 F.2.1 dX8_worthOf_16 (by rw [c4]; decide) (by rw [c4]; decide) (by rw [c4]; rfl) (by decide) ?_
            refine lv_iconst (v := 5) F.1 F.2.1 dX8_worthOf_74 (by decide) ?_
            exact r_ireturn F I ⟨hr.1, hr.2.1, trivial⟩ h dX8_worthOf_75
          · rw [if_neg c4] at h
            have e0 := lv_neT (a := 1) c0 (by decide)
            have e1 := lv_neT (a := 2) c1 (by decide)
            have e2 := lv_neT (a := 3) c2 (by decide)
            have e3 := lv_neT (a := 4) c3 (by decide)
            have e4 := lv_neT (a := 5) c4 (by decide)
            refine lv_tableOut (tgt := 76) F.1 F.2.1 dX8_worthOf_16 (by omega) (by decide) ?_
            refine lv_iload_n F.1 F.2.1 dX8_worthOf_76 rfl (lv_at hl 0 rfl) ?_
            exact r_ireturn F I ⟨hr.1, hr.2.1, trivial⟩ h dX8_worthOf_77
theorem bdX8_told_0 : ∀ q ∈ ([(0, .aload_n 0, 1), (1, .iload_n 1, 1), (2, .invokevirtual 83, 3), (5, .ifCond .eq 13, 3), (8, .iload_n 2, 1), (9, .iconst 0, 1), (10, .bipush 7, 2), (12, .invokestatic 79, 3), (15, .ifCond .ne 6, 3), (18, .ldc 98, 2), (20, .ireturn, 1), (21, .iload_n 2, 1), (22, .bipush 6, 2), (24, .if_icmp .ge 12, 3), (27, .aload_n 0, 1), (28, .iload_n 1, 1), (29, .iload_n 2, 1), (30, .invokevirtual 87, 3), (33, .goto 30, 3), (36, .iload_n 2, 1), (37, .bipush 7, 2), (39, .if_icmp .ne 11, 3), (42, .aload_n 0, 1), (43, .iload_n 1, 1), (44, .invokevirtual 104, 3), (47, .goto 16, 3), (50, .aload_n 0, 1), (51, .iload_n 1, 1), (52, .invokevirtual 108, 3), (55, .ifCond .eq 7, 3), (58, .iconst 1, 1), (59, .goto 4, 3), (62, .iconst 0, 1), (63, .ireturn, 1)] : List (Nat × Jvm.ClassFile.Instr × Nat)), decode cX8_told q.1 = .ok q.2 := chk_ok _ 0 _ rfl (by decide +kernel)
theorem dX8_told_0 : decode cX8_told 0 = .ok (.aload_n 0, 1) := bdX8_told_0 (0, .aload_n 0, 1) (List.mem_of_getElem? (i := 0) rfl)
theorem dX8_told_1 : decode cX8_told 1 = .ok (.iload_n 1, 1) := bdX8_told_0 (1, .iload_n 1, 1) (List.mem_of_getElem? (i := 1) rfl)
theorem dX8_told_2 : decode cX8_told 2 = .ok (.invokevirtual 83, 3) := bdX8_told_0 (2, .invokevirtual 83, 3) (List.mem_of_getElem? (i := 2) rfl)
theorem dX8_told_5 : decode cX8_told 5 = .ok (.ifCond .eq 13, 3) := bdX8_told_0 (5, .ifCond .eq 13, 3) (List.mem_of_getElem? (i := 3) rfl)
theorem dX8_told_8 : decode cX8_told 8 = .ok (.iload_n 2, 1) := bdX8_told_0 (8, .iload_n 2, 1) (List.mem_of_getElem? (i := 4) rfl)
theorem dX8_told_9 : decode cX8_told 9 = .ok (.iconst 0, 1) := bdX8_told_0 (9, .iconst 0, 1) (List.mem_of_getElem? (i := 5) rfl)
theorem dX8_told_10 : decode cX8_told 10 = .ok (.bipush 7, 2) := bdX8_told_0 (10, .bipush 7, 2) (List.mem_of_getElem? (i := 6) rfl)
theorem dX8_told_12 : decode cX8_told 12 = .ok (.invokestatic 79, 3) := bdX8_told_0 (12, .invokestatic 79, 3) (List.mem_of_getElem? (i := 7) rfl)
theorem dX8_told_15 : decode cX8_told 15 = .ok (.ifCond .ne 6, 3) := bdX8_told_0 (15, .ifCond .ne 6, 3) (List.mem_of_getElem? (i := 8) rfl)
theorem dX8_told_18 : decode cX8_told 18 = .ok (.ldc 98, 2) := bdX8_told_0 (18, .ldc 98, 2) (List.mem_of_getElem? (i := 9) rfl)
theorem dX8_told_20 : decode cX8_told 20 = .ok (.ireturn, 1) := bdX8_told_0 (20, .ireturn, 1) (List.mem_of_getElem? (i := 10) rfl)
theorem dX8_told_21 : decode cX8_told 21 = .ok (.iload_n 2, 1) := bdX8_told_0 (21, .iload_n 2, 1) (List.mem_of_getElem? (i := 11) rfl)
theorem dX8_told_22 : decode cX8_told 22 = .ok (.bipush 6, 2) := bdX8_told_0 (22, .bipush 6, 2) (List.mem_of_getElem? (i := 12) rfl)
theorem dX8_told_24 : decode cX8_told 24 = .ok (.if_icmp .ge 12, 3) := bdX8_told_0 (24, .if_icmp .ge 12, 3) (List.mem_of_getElem? (i := 13) rfl)
theorem dX8_told_27 : decode cX8_told 27 = .ok (.aload_n 0, 1) := bdX8_told_0 (27, .aload_n 0, 1) (List.mem_of_getElem? (i := 14) rfl)
theorem dX8_told_28 : decode cX8_told 28 = .ok (.iload_n 1, 1) := bdX8_told_0 (28, .iload_n 1, 1) (List.mem_of_getElem? (i := 15) rfl)
theorem dX8_told_29 : decode cX8_told 29 = .ok (.iload_n 2, 1) := bdX8_told_0 (29, .iload_n 2, 1) (List.mem_of_getElem? (i := 16) rfl)
theorem dX8_told_30 : decode cX8_told 30 = .ok (.invokevirtual 87, 3) := bdX8_told_0 (30, .invokevirtual 87, 3) (List.mem_of_getElem? (i := 17) rfl)
theorem dX8_told_33 : decode cX8_told 33 = .ok (.goto 30, 3) := bdX8_told_0 (33, .goto 30, 3) (List.mem_of_getElem? (i := 18) rfl)
theorem dX8_told_36 : decode cX8_told 36 = .ok (.iload_n 2, 1) := bdX8_told_0 (36, .iload_n 2, 1) (List.mem_of_getElem? (i := 19) rfl)
theorem dX8_told_37 : decode cX8_told 37 = .ok (.bipush 7, 2) := bdX8_told_0 (37, .bipush 7, 2) (List.mem_of_getElem? (i := 20) rfl)
theorem dX8_told_39 : decode cX8_told 39 = .ok (.if_icmp .ne 11, 3) := bdX8_told_0 (39, .if_icmp .ne 11, 3) (List.mem_of_getElem? (i := 21) rfl)
theorem dX8_told_42 : decode cX8_told 42 = .ok (.aload_n 0, 1) := bdX8_told_0 (42, .aload_n 0, 1) (List.mem_of_getElem? (i := 22) rfl)
theorem dX8_told_43 : decode cX8_told 43 = .ok (.iload_n 1, 1) := bdX8_told_0 (43, .iload_n 1, 1) (List.mem_of_getElem? (i := 23) rfl)
theorem dX8_told_44 : decode cX8_told 44 = .ok (.invokevirtual 104, 3) := bdX8_told_0 (44, .invokevirtual 104, 3) (List.mem_of_getElem? (i := 24) rfl)
theorem dX8_told_47 : decode cX8_told 47 = .ok (.goto 16, 3) := bdX8_told_0 (47, .goto 16, 3) (List.mem_of_getElem? (i := 25) rfl)
theorem dX8_told_50 : decode cX8_told 50 = .ok (.aload_n 0, 1) := bdX8_told_0 (50, .aload_n 0, 1) (List.mem_of_getElem? (i := 26) rfl)
theorem dX8_told_51 : decode cX8_told 51 = .ok (.iload_n 1, 1) := bdX8_told_0 (51, .iload_n 1, 1) (List.mem_of_getElem? (i := 27) rfl)
theorem dX8_told_52 : decode cX8_told 52 = .ok (.invokevirtual 108, 3) := bdX8_told_0 (52, .invokevirtual 108, 3) (List.mem_of_getElem? (i := 28) rfl)
theorem dX8_told_55 : decode cX8_told 55 = .ok (.ifCond .eq 7, 3) := bdX8_told_0 (55, .ifCond .eq 7, 3) (List.mem_of_getElem? (i := 29) rfl)
theorem dX8_told_58 : decode cX8_told 58 = .ok (.iconst 1, 1) := bdX8_told_0 (58, .iconst 1, 1) (List.mem_of_getElem? (i := 30) rfl)
theorem dX8_told_59 : decode cX8_told 59 = .ok (.goto 4, 3) := bdX8_told_0 (59, .goto 4, 3) (List.mem_of_getElem? (i := 31) rfl)
theorem dX8_told_62 : decode cX8_told 62 = .ok (.iconst 0, 1) := bdX8_told_0 (62, .iconst 0, 1) (List.mem_of_getElem? (i := 32) rfl)
theorem dX8_told_63 : decode cX8_told 63 = .ok (.ireturn, 1) := bdX8_told_0 (63, .ireturn, 1) (List.mem_of_getElem? (i := 33) rfl)
theorem kX8_108 : mthV RX8 108 8 yX8_isHeiress prog_10_method_13_code 4 (Option.some Jvm.ClassFile.FieldType.boolean) 1 := ⟨⟨⟨tw_1078, tw_67, tw_1081⟩, rfl, by decide +kernel⟩, tw_1080, tw_27, rfl⟩
theorem kX8_104 : mthV RX8 104 8 yX8_worthOf prog_10_method_14_code 3 (Option.some Jvm.ClassFile.FieldType.int) 1 := ⟨⟨⟨tw_1074, tw_67, tw_1077⟩, rfl, by decide +kernel⟩, tw_1076, tw_26, rfl⟩
def BX8_told_18 (ln : Nat → Nat) (post : Int32 → HC → Prop) (S : HC)  : Prop := post (-1000000001 : Int32) S
def wpX8_told (ln : Nat → Nat) (S : HC) (a0 : Nat) (a1 : Int32) (a2 : Int32) (post : Int32 → HC → Prop) : Prop := wpX8_isOne ln S a0 a1 fun z1 S => if z1 = 0 then (BX8_told_18 ln post S) else (wpX8_in ln S a2 (0 : Int32) (7 : Int32) fun z2 S => if z2 = 0 then (BX8_told_18 ln post S) else (if (6 : Int32) ≤ a2 then (if a2 = (7 : Int32) then (wpX8_worthOf ln S a0 a1 fun z4 S => post z4 S) else (wpX8_isHeiress ln S a0 a1 fun z3 S => if z3 = 0 then (post (0 : Int32) S) else (post (1 : Int32) S))) else (wpX8_of ln S a0 a1 a2 fun z5 S => post z5 S)))
abbrev rmX8_told : Room := { frames := 2, cells := 0, slots := 0, locals := 45 }
set_option maxHeartbeats 4000000 in
set_option maxRecDepth 100000 in
theorem ctX8_told {l : Launch} {g : GX} {N : Nat} {ln : Nat → Nat} {S : HC} {a0 : Nat} {a1 : Int32} {a2 : Int32} {post : Int32 → HC → Prop} (hr_a0 : a0 < N) (hk_a0 : kd a0 = 8) (h : wpX8_told ln S a0 a1 a2 post) : Met l yX8_told (Cond.code yX8_told prog_10_method_15_code 3 (Option.some Jvm.ClassFile.FieldType.int) :: gtbl) rmX8_told (va_Pc [.ref (gz g + a0), .int a1, .int a2] (AtP g N ln S)) (QI g N ln post) 0 0 (gF g) := by
  refine m_of (by decide) (Nat.le_of_ble_eq_true rfl) ?_
  intro p e s m below meth c ls F hr I hl
  have hl : lv_has ls 3 [(0, .ref (gz g + a0)), (1, .int a1), (2, .int a2)] := hl
  unfold wpX8_told at h
  have hj_18 : ∀ (S : HC) (H : Heap) (locs : List Loc) (ls : Array Slot), BX8_told_18 ln post S  → Inv g N ln S s H locs → lv_has ls 3 [] → W p l e rmX8_told s m ([.ref (gz g + a0), .int a1, .int a2] : List Value).toArray below meth c H locs 0 0 (MQ below (QI g N ln post) ([.ref (gz g + a0), .int a1, .int a2] : List Value).toArray s 0 0 (gF g)) (F0 m 18 ls []) := by
    intro S H locs ls h I hl
    unfold BX8_told_18 at h
    refine lv_ldc F.1 F.2.1 F.2.2.2.1 (F.2.2.2.2 _ tw_1064) dX8_told_18 ?_
    exact r_ireturn F I ⟨hr.1, hr.2.1, trivial⟩ h dX8_told_20
  refine lv_aload_n F.1 F.2.1 dX8_told_0 rfl (lv_at hl 0 rfl) ?_
  refine lv_iload_n F.1 F.2.1 dX8_told_1 rfl (lv_at hl 1 rfl) ?_
  refine g_I I (run_V (As := [.int a1]) (rest := []) F I hr_a0 hk_a0 (by decide) kX8_83 (ctX8_isOne hr_a0 hk_a0 h) ⟨rfl, rfl⟩ ⟨Nat.le_of_ble_eq_true rfl, Nat.le_of_ble_eq_true rfl⟩ rfl hl.1 rfl (Nat.le_of_ble_eq_true rfl) ⟨Nat.le_of_ble_eq_true rfl, Nat.le_of_ble_eq_true rfl⟩ dX8_told_2) (fun z1 S H locs I h => ?_)
  refine r_if_eq (tgt := 18) F dX8_told_5 (by decide) h (fun h => ?_) (fun h => ?_)
  · exact hj_18 S _ _ _   h I (lv_sub hl [] rfl)
  · refine lv_iload_n F.1 F.2.1 dX8_told_8 rfl (lv_at hl 2 rfl) ?_
    refine lv_iconst (v := 0) F.1 F.2.1 dX8_told_9 (by decide) ?_
    refine lv_bipush (v := 7) F.1 F.2.1 dX8_told_10 (by decide) ?_
    refine g_I I (run_S (As := [.int a2, .int (0 : Int32), .int (7 : Int32)]) (rest := []) F I kX8_79 (ctX8_in h) ⟨rfl, rfl⟩ ⟨Nat.le_of_ble_eq_true rfl, Nat.le_of_ble_eq_true rfl⟩ rfl hl.1 rfl (Nat.le_of_ble_eq_true rfl) ⟨Nat.le_of_ble_eq_true rfl, Nat.le_of_ble_eq_true rfl⟩ dX8_told_12) (fun z2 S H locs I h => ?_)
    refine r_if_ne (tgt := 21) F dX8_told_15 (by decide) h (fun h => ?_) (fun h => ?_)
    · refine lv_iload_n F.1 F.2.1 dX8_told_21 rfl (lv_at hl 2 rfl) ?_
      refine lv_bipush (v := 6) F.1 F.2.1 dX8_told_22 (by decide) ?_
      refine r_icmp_ge (tgt := 36) F dX8_told_24 (by decide) h (fun h => ?_) (fun h => ?_)
      · refine lv_iload_n F.1 F.2.1 dX8_told_36 rfl (lv_at hl 2 rfl) ?_
        refine lv_bipush (v := 7) F.1 F.2.1 dX8_told_37 (by decide) ?_
        refine r_icmp_ne (tgt := 50) F dX8_told_39 (by decide) h (fun h => ?_) (fun h => ?_)
        · refine lv_aload_n F.1 F.2.1 dX8_told_50 rfl (lv_at hl 0 rfl) ?_
          refine lv_iload_n F.1 F.2.1 dX8_told_51 rfl (lv_at hl 1 rfl) ?_
          refine g_I I (run_V (As := [.int a1]) (rest := []) F I hr_a0 hk_a0 (by decide) kX8_108 (ctX8_isHeiress hr_a0 hk_a0 h) ⟨rfl, rfl⟩ ⟨Nat.le_of_ble_eq_true rfl, Nat.le_of_ble_eq_true rfl⟩ rfl hl.1 rfl (Nat.le_of_ble_eq_true rfl) ⟨Nat.le_of_ble_eq_true rfl, Nat.le_of_ble_eq_true rfl⟩ dX8_told_52) (fun z3 S H locs I h => ?_)
          refine r_if_eq (tgt := 62) F dX8_told_55 (by decide) h (fun h => ?_) (fun h => ?_)
          · refine lv_iconst (v := 0) F.1 F.2.1 dX8_told_62 (by decide) ?_
            exact r_ireturn F I ⟨hr.1, hr.2.1, trivial⟩ h dX8_told_63
          · refine lv_iconst (v := 1) F.1 F.2.1 dX8_told_58 (by decide) ?_
            refine lv_goto (tgt := 63) F.1 F.2.1 dX8_told_59 (by decide) ?_
            exact r_ireturn F I ⟨hr.1, hr.2.1, trivial⟩ h dX8_told_63
        · refine lv_aload_n F.1 F.2.1 dX8_told_42 rfl (lv_at hl 0 rfl) ?_
          refine lv_iload_n F.1 F.2.1 dX8_told_43 rfl (lv_at hl 1 rfl) ?_
          refine g_I I (run_V (As := [.int a1]) (rest := []) F I hr_a0 hk_a0 (by decide) kX8_104 (ctX8_worthOf hr_a0 hk_a0 h) ⟨rfl, rfl⟩ ⟨Nat.le_of_ble_eq_true rfl, Nat.le_of_ble_eq_true rfl⟩ rfl hl.1 rfl (Nat.le_of_ble_eq_true rfl) ⟨Nat.le_of_ble_eq_true rfl, Nat.le_of_ble_eq_true rfl⟩ dX8_told_44) (fun z4 S H locs I h => ?_)
          refine lv_goto (tgt := 63) F.1 F.2.1 dX8_told_47 (by decide) ?_
          exact r_ireturn F I ⟨hr.1, hr.2.1, trivial⟩ h dX8_told_63
      · refine lv_aload_n F.1 F.2.1 dX8_told_27 rfl (lv_at hl 0 rfl) ?_
        refine lv_iload_n F.1 F.2.1 dX8_told_28 rfl (lv_at hl 1 rfl) ?_
        refine lv_iload_n F.1 F.2.1 dX8_told_29 rfl (lv_at hl 2 rfl) ?_
        refine g_I I (run_V (As := [.int a1, .int a2]) (rest := []) F I hr_a0 hk_a0 (by decide) kX8_87 (ctX8_of hr_a0 hk_a0 h) ⟨rfl, rfl⟩ ⟨Nat.le_of_ble_eq_true rfl, Nat.le_of_ble_eq_true rfl⟩ rfl hl.1 rfl (Nat.le_of_ble_eq_true rfl) ⟨Nat.le_of_ble_eq_true rfl, Nat.le_of_ble_eq_true rfl⟩ dX8_told_30) (fun z5 S H locs I h => ?_)
        refine lv_goto (tgt := 63) F.1 F.2.1 dX8_told_33 (by decide) ?_
        exact r_ireturn F I ⟨hr.1, hr.2.1, trivial⟩ h dX8_told_63
    · exact hj_18 S _ _ _   h I (lv_sub hl [] rfl)
theorem bdX8_two_0 : ∀ q ∈ ([(0, .iload_n 0, 1), (48, .iload_n 1, 1), (49, .ifCond .ne 7, 3), (52, .iload_n 2, 1), (53, .ifCond .eq 7, 3), (56, .iconst 1, 1), (57, .goto 4, 3), (60, .iconst 0, 1), (61, .ireturn, 1), (62, .iload_n 1, 1), (63, .ifCond .eq 11, 3), (66, .iload_n 2, 1), (67, .ifCond .eq 7, 3), (70, .iconst 1, 1), (71, .goto 4, 3), (74, .iconst 0, 1), (75, .ireturn, 1), (76, .iload_n 1, 1), (77, .iload_n 2, 1), (78, .if_icmp .ge 7, 3), (81, .iconst 1, 1), (82, .goto 4, 3), (85, .iconst 0, 1), (86, .ireturn, 1), (87, .iload_n 1, 1), (88, .iload_n 2, 1), (89, .if_icmp .ne 7, 3), (92, .iconst 1, 1), (93, .goto 4, 3), (96, .iconst 0, 1), (97, .ireturn, 1), (98, .iload_n 1, 1), (99, .iload_n 2, 1), (100, .if_icmp .le 7, 3), (103, .iconst 1, 1), (104, .goto 4, 3), (107, .iconst 0, 1), (108, .ireturn, 1), (109, .iload_n 1, 1), (110, .iload_n 2, 1)] : List (Nat × Jvm.ClassFile.Instr × Nat)), decode cX8_two q.1 = .ok q.2 := chk_ok _ 0 _ rfl (by decide +kernel)
theorem dX8_two_0 : decode cX8_two 0 = .ok (.iload_n 0, 1) := bdX8_two_0 (0, .iload_n 0, 1) (List.mem_of_getElem? (i := 0) rfl)
theorem dX8_two_48 : decode cX8_two 48 = .ok (.iload_n 1, 1) := bdX8_two_0 (48, .iload_n 1, 1) (List.mem_of_getElem? (i := 1) rfl)
theorem dX8_two_49 : decode cX8_two 49 = .ok (.ifCond .ne 7, 3) := bdX8_two_0 (49, .ifCond .ne 7, 3) (List.mem_of_getElem? (i := 2) rfl)
theorem dX8_two_52 : decode cX8_two 52 = .ok (.iload_n 2, 1) := bdX8_two_0 (52, .iload_n 2, 1) (List.mem_of_getElem? (i := 3) rfl)
theorem dX8_two_53 : decode cX8_two 53 = .ok (.ifCond .eq 7, 3) := bdX8_two_0 (53, .ifCond .eq 7, 3) (List.mem_of_getElem? (i := 4) rfl)
theorem dX8_two_56 : decode cX8_two 56 = .ok (.iconst 1, 1) := bdX8_two_0 (56, .iconst 1, 1) (List.mem_of_getElem? (i := 5) rfl)
theorem dX8_two_57 : decode cX8_two 57 = .ok (.goto 4, 3) := bdX8_two_0 (57, .goto 4, 3) (List.mem_of_getElem? (i := 6) rfl)
theorem dX8_two_60 : decode cX8_two 60 = .ok (.iconst 0, 1) := bdX8_two_0 (60, .iconst 0, 1) (List.mem_of_getElem? (i := 7) rfl)
theorem dX8_two_61 : decode cX8_two 61 = .ok (.ireturn, 1) := bdX8_two_0 (61, .ireturn, 1) (List.mem_of_getElem? (i := 8) rfl)
theorem dX8_two_62 : decode cX8_two 62 = .ok (.iload_n 1, 1) := bdX8_two_0 (62, .iload_n 1, 1) (List.mem_of_getElem? (i := 9) rfl)
theorem dX8_two_63 : decode cX8_two 63 = .ok (.ifCond .eq 11, 3) := bdX8_two_0 (63, .ifCond .eq 11, 3) (List.mem_of_getElem? (i := 10) rfl)
theorem dX8_two_66 : decode cX8_two 66 = .ok (.iload_n 2, 1) := bdX8_two_0 (66, .iload_n 2, 1) (List.mem_of_getElem? (i := 11) rfl)
theorem dX8_two_67 : decode cX8_two 67 = .ok (.ifCond .eq 7, 3) := bdX8_two_0 (67, .ifCond .eq 7, 3) (List.mem_of_getElem? (i := 12) rfl)
theorem dX8_two_70 : decode cX8_two 70 = .ok (.iconst 1, 1) := bdX8_two_0 (70, .iconst 1, 1) (List.mem_of_getElem? (i := 13) rfl)
theorem dX8_two_71 : decode cX8_two 71 = .ok (.goto 4, 3) := bdX8_two_0 (71, .goto 4, 3) (List.mem_of_getElem? (i := 14) rfl)
theorem dX8_two_74 : decode cX8_two 74 = .ok (.iconst 0, 1) := bdX8_two_0 (74, .iconst 0, 1) (List.mem_of_getElem? (i := 15) rfl)
theorem dX8_two_75 : decode cX8_two 75 = .ok (.ireturn, 1) := bdX8_two_0 (75, .ireturn, 1) (List.mem_of_getElem? (i := 16) rfl)
theorem dX8_two_76 : decode cX8_two 76 = .ok (.iload_n 1, 1) := bdX8_two_0 (76, .iload_n 1, 1) (List.mem_of_getElem? (i := 17) rfl)
theorem dX8_two_77 : decode cX8_two 77 = .ok (.iload_n 2, 1) := bdX8_two_0 (77, .iload_n 2, 1) (List.mem_of_getElem? (i := 18) rfl)
theorem dX8_two_78 : decode cX8_two 78 = .ok (.if_icmp .ge 7, 3) := bdX8_two_0 (78, .if_icmp .ge 7, 3) (List.mem_of_getElem? (i := 19) rfl)
theorem dX8_two_81 : decode cX8_two 81 = .ok (.iconst 1, 1) := bdX8_two_0 (81, .iconst 1, 1) (List.mem_of_getElem? (i := 20) rfl)
theorem dX8_two_82 : decode cX8_two 82 = .ok (.goto 4, 3) := bdX8_two_0 (82, .goto 4, 3) (List.mem_of_getElem? (i := 21) rfl)
theorem dX8_two_85 : decode cX8_two 85 = .ok (.iconst 0, 1) := bdX8_two_0 (85, .iconst 0, 1) (List.mem_of_getElem? (i := 22) rfl)
theorem dX8_two_86 : decode cX8_two 86 = .ok (.ireturn, 1) := bdX8_two_0 (86, .ireturn, 1) (List.mem_of_getElem? (i := 23) rfl)
theorem dX8_two_87 : decode cX8_two 87 = .ok (.iload_n 1, 1) := bdX8_two_0 (87, .iload_n 1, 1) (List.mem_of_getElem? (i := 24) rfl)
theorem dX8_two_88 : decode cX8_two 88 = .ok (.iload_n 2, 1) := bdX8_two_0 (88, .iload_n 2, 1) (List.mem_of_getElem? (i := 25) rfl)
theorem dX8_two_89 : decode cX8_two 89 = .ok (.if_icmp .ne 7, 3) := bdX8_two_0 (89, .if_icmp .ne 7, 3) (List.mem_of_getElem? (i := 26) rfl)
theorem dX8_two_92 : decode cX8_two 92 = .ok (.iconst 1, 1) := bdX8_two_0 (92, .iconst 1, 1) (List.mem_of_getElem? (i := 27) rfl)
theorem dX8_two_93 : decode cX8_two 93 = .ok (.goto 4, 3) := bdX8_two_0 (93, .goto 4, 3) (List.mem_of_getElem? (i := 28) rfl)
theorem dX8_two_96 : decode cX8_two 96 = .ok (.iconst 0, 1) := bdX8_two_0 (96, .iconst 0, 1) (List.mem_of_getElem? (i := 29) rfl)
theorem dX8_two_97 : decode cX8_two 97 = .ok (.ireturn, 1) := bdX8_two_0 (97, .ireturn, 1) (List.mem_of_getElem? (i := 30) rfl)
theorem dX8_two_98 : decode cX8_two 98 = .ok (.iload_n 1, 1) := bdX8_two_0 (98, .iload_n 1, 1) (List.mem_of_getElem? (i := 31) rfl)
theorem dX8_two_99 : decode cX8_two 99 = .ok (.iload_n 2, 1) := bdX8_two_0 (99, .iload_n 2, 1) (List.mem_of_getElem? (i := 32) rfl)
theorem dX8_two_100 : decode cX8_two 100 = .ok (.if_icmp .le 7, 3) := bdX8_two_0 (100, .if_icmp .le 7, 3) (List.mem_of_getElem? (i := 33) rfl)
theorem dX8_two_103 : decode cX8_two 103 = .ok (.iconst 1, 1) := bdX8_two_0 (103, .iconst 1, 1) (List.mem_of_getElem? (i := 34) rfl)
theorem dX8_two_104 : decode cX8_two 104 = .ok (.goto 4, 3) := bdX8_two_0 (104, .goto 4, 3) (List.mem_of_getElem? (i := 35) rfl)
theorem dX8_two_107 : decode cX8_two 107 = .ok (.iconst 0, 1) := bdX8_two_0 (107, .iconst 0, 1) (List.mem_of_getElem? (i := 36) rfl)
theorem dX8_two_108 : decode cX8_two 108 = .ok (.ireturn, 1) := bdX8_two_0 (108, .ireturn, 1) (List.mem_of_getElem? (i := 37) rfl)
theorem dX8_two_109 : decode cX8_two 109 = .ok (.iload_n 1, 1) := bdX8_two_0 (109, .iload_n 1, 1) (List.mem_of_getElem? (i := 38) rfl)
theorem dX8_two_110 : decode cX8_two 110 = .ok (.iload_n 2, 1) := bdX8_two_0 (110, .iload_n 2, 1) (List.mem_of_getElem? (i := 39) rfl)
theorem bdX8_two_111 : ∀ q ∈ ([(111, .iadd, 1), (112, .ireturn, 1), (113, .iload_n 1, 1), (114, .iload_n 2, 1), (115, .isub, 1), (116, .ireturn, 1), (117, .iload_n 1, 1), (118, .iload_n 2, 1), (119, .imul, 1), (120, .ireturn, 1), (121, .iload_n 2, 1), (122, .ifCond .ne 7, 3), (125, .iconst 0, 1), (126, .goto 6, 3), (129, .iload_n 1, 1), (130, .iload_n 2, 1), (132, .ireturn, 1)] : List (Nat × Jvm.ClassFile.Instr × Nat)), decode cX8_two q.1 = .ok q.2 := chk_ok _ 111 _ rfl (by decide +kernel)
theorem dX8_two_111 : decode cX8_two 111 = .ok (.iadd, 1) := bdX8_two_111 (111, .iadd, 1) (List.mem_of_getElem? (i := 0) rfl)
theorem dX8_two_112 : decode cX8_two 112 = .ok (.ireturn, 1) := bdX8_two_111 (112, .ireturn, 1) (List.mem_of_getElem? (i := 1) rfl)
theorem dX8_two_113 : decode cX8_two 113 = .ok (.iload_n 1, 1) := bdX8_two_111 (113, .iload_n 1, 1) (List.mem_of_getElem? (i := 2) rfl)
theorem dX8_two_114 : decode cX8_two 114 = .ok (.iload_n 2, 1) := bdX8_two_111 (114, .iload_n 2, 1) (List.mem_of_getElem? (i := 3) rfl)
theorem dX8_two_115 : decode cX8_two 115 = .ok (.isub, 1) := bdX8_two_111 (115, .isub, 1) (List.mem_of_getElem? (i := 4) rfl)
theorem dX8_two_116 : decode cX8_two 116 = .ok (.ireturn, 1) := bdX8_two_111 (116, .ireturn, 1) (List.mem_of_getElem? (i := 5) rfl)
theorem dX8_two_117 : decode cX8_two 117 = .ok (.iload_n 1, 1) := bdX8_two_111 (117, .iload_n 1, 1) (List.mem_of_getElem? (i := 6) rfl)
theorem dX8_two_118 : decode cX8_two 118 = .ok (.iload_n 2, 1) := bdX8_two_111 (118, .iload_n 2, 1) (List.mem_of_getElem? (i := 7) rfl)
theorem dX8_two_119 : decode cX8_two 119 = .ok (.imul, 1) := bdX8_two_111 (119, .imul, 1) (List.mem_of_getElem? (i := 8) rfl)
theorem dX8_two_120 : decode cX8_two 120 = .ok (.ireturn, 1) := bdX8_two_111 (120, .ireturn, 1) (List.mem_of_getElem? (i := 9) rfl)
theorem dX8_two_121 : decode cX8_two 121 = .ok (.iload_n 2, 1) := bdX8_two_111 (121, .iload_n 2, 1) (List.mem_of_getElem? (i := 10) rfl)
theorem dX8_two_122 : decode cX8_two 122 = .ok (.ifCond .ne 7, 3) := bdX8_two_111 (122, .ifCond .ne 7, 3) (List.mem_of_getElem? (i := 11) rfl)
theorem dX8_two_125 : decode cX8_two 125 = .ok (.iconst 0, 1) := bdX8_two_111 (125, .iconst 0, 1) (List.mem_of_getElem? (i := 12) rfl)
theorem dX8_two_126 : decode cX8_two 126 = .ok (.goto 6, 3) := bdX8_two_111 (126, .goto 6, 3) (List.mem_of_getElem? (i := 13) rfl)
theorem dX8_two_129 : decode cX8_two 129 = .ok (.iload_n 1, 1) := bdX8_two_111 (129, .iload_n 1, 1) (List.mem_of_getElem? (i := 14) rfl)
theorem dX8_two_130 : decode cX8_two 130 = .ok (.iload_n 2, 1) := bdX8_two_111 (130, .iload_n 2, 1) (List.mem_of_getElem? (i := 15) rfl)
theorem dX8_two_132 : decode cX8_two 132 = .ok (.ireturn, 1) := bdX8_two_111 (132, .ireturn, 1) (List.mem_of_getElem? (i := 16) rfl)
theorem dX8_two_1 : decode cX8_two 1 = .ok (.tableswitch 120 (-8) (-1) #[116, 112, 108, 97, 86, 75, 61, 47], 47) := by decide +kernel
theorem dX8_two_131 : decode cX8_two 131 = .ok (.idiv, 1) := by decide +kernel
def BX8_two_74 (ln : Nat → Nat) (post : Int32 → HC → Prop) (S : HC)  : Prop := post (0 : Int32) S
def BX8_two_56 (ln : Nat → Nat) (post : Int32 → HC → Prop) (S : HC)  : Prop := post (1 : Int32) S
def wpX8_two (ln : Nat → Nat) (S : HC) (a0 : Int32) (a1 : Int32) (a2 : Int32) (post : Int32 → HC → Prop) : Prop := if a0 = (-8 : Int32) then (lt_ (a1 * a2) fun z2 => post z2 S) else if a0 = (-7 : Int32) then (lt_ (a1 - a2) fun z3 => post z3 S) else if a0 = (-6 : Int32) then (lt_ (a1 + a2) fun z4 => post z4 S) else if a0 = (-5 : Int32) then (if a1 ≤ a2 then (post (0 : Int32) S) else (post (1 : Int32) S)) else if a0 = (-4 : Int32) then (if a1 = a2 then (post (1 : Int32) S) else (post (0 : Int32) S)) else if a0 = (-3 : Int32) then (if a2 ≤ a1 then (post (0 : Int32) S) else (post (1 : Int32) S)) else if a0 = (-2 : Int32) then (if a1 = 0 then (BX8_two_74 ln post S) else (if a2 = 0 then (BX8_two_74 ln post S) else (post (1 : Int32) S))) else if a0 = (-1 : Int32) then (if a1 = 0 then (if a2 = 0 then (post (0 : Int32) S) else (BX8_two_56 ln post S)) else (BX8_two_56 ln post S)) else if a2 = 0 then (post (0 : Int32) S) else (ne_ a2 <| lt_ (a1 / a2) fun z1 => post z1 S)
abbrev rmX8_two : Room := { frames := 0, cells := 0, slots := 0, locals := 0 }
set_option maxHeartbeats 4000000 in
set_option maxRecDepth 100000 in
theorem ctX8_two {l : Launch} {g : GX} {N : Nat} {ln : Nat → Nat} {S : HC} {a0 : Int32} {a1 : Int32} {a2 : Int32} {post : Int32 → HC → Prop} (h : wpX8_two ln S a0 a1 a2 post) : Met l yX8_two (Cond.code yX8_two prog_10_method_71_code 3 (Option.some Jvm.ClassFile.FieldType.int) :: gtbl) rmX8_two (va_Pc [.int a0, .int a1, .int a2] (AtP g N ln S)) (QI g N ln post) 0 0 (gF g) := by
  refine m_of (by decide) (Nat.le_of_ble_eq_true rfl) ?_
  intro p e s m below meth c ls F hr I hl
  have hl : lv_has ls 3 [(0, .int a0), (1, .int a1), (2, .int a2)] := hl
  unfold wpX8_two at h
  have hj_74 : ∀ (S : HC) (H : Heap) (locs : List Loc) (ls : Array Slot), BX8_two_74 ln post S  → Inv g N ln S s H locs → lv_has ls 3 [] → W p l e rmX8_two s m ([.int a0, .int a1, .int a2] : List Value).toArray below meth c H locs 0 0 (MQ below (QI g N ln post) ([.int a0, .int a1, .int a2] : List Value).toArray s 0 0 (gF g)) (F0 m 74 ls []) := by
    intro S H locs ls h I hl
    unfold BX8_two_74 at h
    refine lv_iconst (v := 0) F.1 F.2.1 dX8_two_74 (by decide) ?_
    exact r_ireturn F I ⟨hr.1, hr.2.1, trivial⟩ h dX8_two_75
  have hj_56 : ∀ (S : HC) (H : Heap) (locs : List Loc) (ls : Array Slot), BX8_two_56 ln post S  → Inv g N ln S s H locs → lv_has ls 3 [] → W p l e rmX8_two s m ([.int a0, .int a1, .int a2] : List Value).toArray below meth c H locs 0 0 (MQ below (QI g N ln post) ([.int a0, .int a1, .int a2] : List Value).toArray s 0 0 (gF g)) (F0 m 56 ls []) := by
    intro S H locs ls h I hl
    unfold BX8_two_56 at h
    refine lv_iconst (v := 1) F.1 F.2.1 dX8_two_56 (by decide) ?_
    refine lv_goto (tgt := 61) F.1 F.2.1 dX8_two_57 (by decide) ?_
    exact r_ireturn F I ⟨hr.1, hr.2.1, trivial⟩ h dX8_two_61
  refine lv_iload_n F.1 F.2.1 dX8_two_0 rfl (lv_at hl 0 rfl) ?_
  by_cases c0 : a0 = (-8 : Int32)
  · rw [if_pos c0] at h
    refine lv_tableIn (off := 116) (tgt := 117) F.1 F.2.1 dX8_two_1 (by rw [c0]; decide) (by rw [c0]; decide) (by rw [c0]; rfl) (by decide) ?_
    refine lv_iload_n F.1 F.2.1 dX8_two_117 rfl (lv_at hl 1 rfl) ?_
    refine lv_iload_n F.1 F.2.1 dX8_two_118 rfl (lv_at hl 2 rfl) ?_
    refine r_imul F dX8_two_119 h (fun z2 h => ?_)
    exact r_ireturn F I ⟨hr.1, hr.2.1, trivial⟩ h dX8_two_120
  · rw [if_neg c0] at h
    by_cases c1 : a0 = (-7 : Int32)
    · rw [if_pos c1] at h
      refine lv_tableIn (off := 112) (tgt := 113) F.1 F.2.1 dX8_two_1 (by rw [c1]; decide) (by rw [c1]; decide) (by rw [c1]; rfl) (by decide) ?_
      refine lv_iload_n F.1 F.2.1 dX8_two_113 rfl (lv_at hl 1 rfl) ?_
      refine lv_iload_n F.1 F.2.1 dX8_two_114 rfl (lv_at hl 2 rfl) ?_
      refine r_isub F dX8_two_115 h (fun z3 h => ?_)
      exact r_ireturn F I ⟨hr.1, hr.2.1, trivial⟩ h dX8_two_116
    · rw [if_neg c1] at h
      by_cases c2 : a0 = (-6 : Int32)
      · rw [if_pos c2] at h
        refine lv_tableIn (off := 108) (tgt := 109) F.1 F.2.1 dX8_two_1 (by rw [c2]; decide) (by rw [c2]; decide) (by rw [c2]; rfl) (by decide) ?_
        refine lv_iload_n F.1 F.2.1 dX8_two_109 rfl (lv_at hl 1 rfl) ?_
        refine lv_iload_n F.1 F.2.1 dX8_two_110 rfl (lv_at hl 2 rfl) ?_
        refine r_iadd F dX8_two_111 h (fun z4 h => ?_)
        exact r_ireturn F I ⟨hr.1, hr.2.1, trivial⟩ h dX8_two_112
      · rw [if_neg c2] at h
        by_cases c3 : a0 = (-5 : Int32)
        · rw [if_pos c3] at h
          refine lv_tableIn (off := 97) (tgt := 98) F.1 F.2.1 dX8_two_1 (by rw [c3]; decide) (by rw [c3]; decide) (by rw [c3]; rfl) (by decide) ?_
          refine lv_iload_n F.1 F.2.1 dX8_two_98 rfl (lv_at hl 1 rfl) ?_
          refine lv_iload_n F.1 F.2.1 dX8_two_99 rfl (lv_at hl 2 rfl) ?_
          refine r_icmp_le (tgt := 107) F dX8_two_100 (by decide) h (fun h => ?_) (fun h => ?_)
          · refine lv_iconst (v := 0) F.1 F.2.1 dX8_two_107 (by decide) ?_
            exact r_ireturn F I ⟨hr.1, hr.2.1, trivial⟩ h dX8_two_108
          · refine lv_iconst (v := 1) F.1 F.2.1 dX8_two_103 (by decide) ?_
            refine lv_goto (tgt := 108) F.1 F.2.1 dX8_two_104 (by decide) ?_
            exact r_ireturn F I ⟨hr.1, hr.2.1, trivial⟩ h dX8_two_108
        · rw [if_neg c3] at h
          by_cases c4 : a0 = (-4 : Int32)
          · rw [if_pos c4] at h
            refine lv_tableIn (off := 86) (tgt := 87) F.1 F.2.1 dX8_two_1 (by rw [c4]; decide) (by rw [c4]; decide) (by rw [c4]; rfl) (by decide) ?_
            refine lv_iload_n F.1 F.2.1 dX8_two_87 rfl (lv_at hl 1 rfl) ?_
            refine lv_iload_n F.1 F.2.1 dX8_two_88 rfl (lv_at hl 2 rfl) ?_
            refine r_icmp_ne (tgt := 96) F dX8_two_89 (by decide) h (fun h => ?_) (fun h => ?_)
            · refine lv_iconst (v := 0) F.1 F.2.1 dX8_two_96 (by decide) ?_
              exact r_ireturn F I ⟨hr.1, hr.2.1, trivial⟩ h dX8_two_97
            · refine lv_iconst (v := 1) F.1 F.2.1 dX8_two_92 (by decide) ?_
              refine lv_goto (tgt := 97) F.1 F.2.1 dX8_two_93 (by decide) ?_
              exact r_ireturn F I ⟨hr.1, hr.2.1, trivial⟩ h dX8_two_97
          · rw [if_neg c4] at h
            by_cases c5 : a0 = (-3 : Int32)
            · rw [if_pos c5] at h
              refine lv_tableIn (off := 75) (tgt := 76) F.1 F.2.1 dX8_two_1 (by rw [c5]; decide) (by rw [c5]; decide) (by rw [c5]; rfl) (by decide) ?_
              refine lv_iload_n F.1 F.2.1 dX8_two_76 rfl (lv_at hl 1 rfl) ?_
              refine lv_iload_n F.1 F.2.1 dX8_two_77 rfl (lv_at hl 2 rfl) ?_
              refine r_icmp_ge (tgt := 85) F dX8_two_78 (by decide) h (fun h => ?_) (fun h => ?_)
              · refine lv_iconst (v := 0) F.1 F.2.1 dX8_two_85 (by decide) ?_
                exact r_ireturn F I ⟨hr.1, hr.2.1, trivial⟩ h dX8_two_86
              · refine lv_iconst (v := 1) F.1 F.2.1 dX8_two_81 (by decide) ?_
                refine lv_goto (tgt := 86) F.1 F.2.1 dX8_two_82 (by decide) ?_
                exact r_ireturn F I ⟨hr.1, hr.2.1, trivial⟩ h dX8_two_86
            · rw [if_neg c5] at h
              by_cases c6 : a0 = (-2 : Int32)
              · rw [if_pos c6] at h
                refine lv_tableIn (off := 61) (tgt := 62) F.1 F.2.1 dX8_two_1 (by rw [c6]; decide) (by rw [c6]; decide) (by rw [c6]; rfl) (by decide) ?_
                refine lv_iload_n F.1 F.2.1 dX8_two_62 rfl (lv_at hl 1 rfl) ?_
                refine r_if_eq (tgt := 74) F dX8_two_63 (by decide) h (fun h => ?_) (fun h => ?_)
                · exact hj_74 S _ _ _   h I (lv_sub hl [] rfl)
                · refine lv_iload_n F.1 F.2.1 dX8_two_66 rfl (lv_at hl 2 rfl) ?_
                  refine r_if_eq (tgt := 74) F dX8_two_67 (by decide) h (fun h => ?_) (fun h => ?_)
                  · exact hj_74 S _ _ _   h I (lv_sub hl [] rfl)
                  · refine lv_iconst (v := 1) F.1 F.2.1 dX8_two_70 (by decide) ?_
                    refine lv_goto (tgt := 75) F.1 F.2.1 dX8_two_71 (by decide) ?_
                    exact r_ireturn F I ⟨hr.1, hr.2.1, trivial⟩ h dX8_two_75
              · rw [if_neg c6] at h
                by_cases c7 : a0 = (-1 : Int32)
                · rw [if_pos c7] at h
                  refine lv_tableIn (off := 47) (tgt := 48) F.1 F.2.1 dX8_two_1 (by rw [c7]; decide) (by rw [c7]; decide) (by rw [c7]; rfl) (by decide) ?_
                  refine lv_iload_n F.1 F.2.1 dX8_two_48 rfl (lv_at hl 1 rfl) ?_
                  refine r_if_ne (tgt := 56) F dX8_two_49 (by decide) h (fun h => ?_) (fun h => ?_)
                  · exact hj_56 S _ _ _   h I (lv_sub hl [] rfl)
                  · refine lv_iload_n F.1 F.2.1 dX8_two_52 rfl (lv_at hl 2 rfl) ?_
                    refine r_if_eq (tgt := 60) F dX8_two_53 (by decide) h (fun h => ?_) (fun h => ?_)
                    · refine lv_iconst (v := 0) F.1 F.2.1 dX8_two_60 (by decide) ?_
                      exact r_ireturn F I ⟨hr.1, hr.2.1, trivial⟩ h dX8_two_61
                    · exact hj_56 S _ _ _   h I (lv_sub hl [] rfl)
                · rw [if_neg c7] at h
                  have e0 := lv_neT (a := -8) c0 (by decide)
                  have e1 := lv_neT (a := -7) c1 (by decide)
                  have e2 := lv_neT (a := -6) c2 (by decide)
                  have e3 := lv_neT (a := -5) c3 (by decide)
                  have e4 := lv_neT (a := -4) c4 (by decide)
                  have e5 := lv_neT (a := -3) c5 (by decide)
                  have e6 := lv_neT (a := -2) c6 (by decide)
                  have e7 := lv_neT (a := -1) c7 (by decide)
                  refine lv_tableOut (tgt := 121) F.1 F.2.1 dX8_two_1 (by omega) (by decide) ?_
                  refine lv_iload_n F.1 F.2.1 dX8_two_121 rfl (lv_at hl 2 rfl) ?_
                  refine r_if_ne (tgt := 129) F dX8_two_122 (by decide) h (fun h => ?_) (fun h => ?_)
                  · refine lv_iload_n F.1 F.2.1 dX8_two_129 rfl (lv_at hl 1 rfl) ?_
                    refine lv_iload_n F.1 F.2.1 dX8_two_130 rfl (lv_at hl 2 rfl) ?_
                    refine r_idiv F dX8_two_131 h (fun z1 h => ?_)
                    exact r_ireturn F I ⟨hr.1, hr.2.1, trivial⟩ h dX8_two_132
                  · refine lv_iconst (v := 0) F.1 F.2.1 dX8_two_125 (by decide) ?_
                    refine lv_goto (tgt := 132) F.1 F.2.1 dX8_two_126 (by decide) ?_
                    exact r_ireturn F I ⟨hr.1, hr.2.1, trivial⟩ h dX8_two_132
theorem bdX8_counts_0 : ∀ q ∈ ([(0, .aload_n 0, 1), (1, .getfield 9, 3), (4, .iconst 4, 1), (5, .iaload, 1), (6, .iconst 1, 1), (7, .isub, 1), (8, .istore_n 2, 1), (9, .iload_n 2, 1), (10, .ifCond .lt 30, 3), (13, .aload_n 0, 1), (14, .getfield 9, 3), (17, .bipush 89, 2), (19, .iconst 2, 1), (20, .iload_n 2, 1), (21, .imul, 1), (22, .iadd, 1), (23, .iaload, 1), (24, .sipush 1000, 3), (28, .iload_n 1, 1), (29, .if_icmp .ne 5, 3), (32, .iload_n 2, 1), (33, .ireturn, 1), (34, .iinc 2 (-1), 3), (37, .goto (-28), 3), (40, .iconst (-1), 1), (41, .ireturn, 1)] : List (Nat × Jvm.ClassFile.Instr × Nat)), decode cX8_counts q.1 = .ok q.2 := chk_ok _ 0 _ rfl (by decide +kernel)
theorem dX8_counts_0 : decode cX8_counts 0 = .ok (.aload_n 0, 1) := bdX8_counts_0 (0, .aload_n 0, 1) (List.mem_of_getElem? (i := 0) rfl)
theorem dX8_counts_1 : decode cX8_counts 1 = .ok (.getfield 9, 3) := bdX8_counts_0 (1, .getfield 9, 3) (List.mem_of_getElem? (i := 1) rfl)
theorem dX8_counts_4 : decode cX8_counts 4 = .ok (.iconst 4, 1) := bdX8_counts_0 (4, .iconst 4, 1) (List.mem_of_getElem? (i := 2) rfl)
theorem dX8_counts_5 : decode cX8_counts 5 = .ok (.iaload, 1) := bdX8_counts_0 (5, .iaload, 1) (List.mem_of_getElem? (i := 3) rfl)
theorem dX8_counts_6 : decode cX8_counts 6 = .ok (.iconst 1, 1) := bdX8_counts_0 (6, .iconst 1, 1) (List.mem_of_getElem? (i := 4) rfl)
theorem dX8_counts_7 : decode cX8_counts 7 = .ok (.isub, 1) := bdX8_counts_0 (7, .isub, 1) (List.mem_of_getElem? (i := 5) rfl)
theorem dX8_counts_8 : decode cX8_counts 8 = .ok (.istore_n 2, 1) := bdX8_counts_0 (8, .istore_n 2, 1) (List.mem_of_getElem? (i := 6) rfl)
theorem dX8_counts_9 : decode cX8_counts 9 = .ok (.iload_n 2, 1) := bdX8_counts_0 (9, .iload_n 2, 1) (List.mem_of_getElem? (i := 7) rfl)
theorem dX8_counts_10 : decode cX8_counts 10 = .ok (.ifCond .lt 30, 3) := bdX8_counts_0 (10, .ifCond .lt 30, 3) (List.mem_of_getElem? (i := 8) rfl)
theorem dX8_counts_13 : decode cX8_counts 13 = .ok (.aload_n 0, 1) := bdX8_counts_0 (13, .aload_n 0, 1) (List.mem_of_getElem? (i := 9) rfl)
theorem dX8_counts_14 : decode cX8_counts 14 = .ok (.getfield 9, 3) := bdX8_counts_0 (14, .getfield 9, 3) (List.mem_of_getElem? (i := 10) rfl)
theorem dX8_counts_17 : decode cX8_counts 17 = .ok (.bipush 89, 2) := bdX8_counts_0 (17, .bipush 89, 2) (List.mem_of_getElem? (i := 11) rfl)
theorem dX8_counts_19 : decode cX8_counts 19 = .ok (.iconst 2, 1) := bdX8_counts_0 (19, .iconst 2, 1) (List.mem_of_getElem? (i := 12) rfl)
theorem dX8_counts_20 : decode cX8_counts 20 = .ok (.iload_n 2, 1) := bdX8_counts_0 (20, .iload_n 2, 1) (List.mem_of_getElem? (i := 13) rfl)
theorem dX8_counts_21 : decode cX8_counts 21 = .ok (.imul, 1) := bdX8_counts_0 (21, .imul, 1) (List.mem_of_getElem? (i := 14) rfl)
theorem dX8_counts_22 : decode cX8_counts 22 = .ok (.iadd, 1) := bdX8_counts_0 (22, .iadd, 1) (List.mem_of_getElem? (i := 15) rfl)
theorem dX8_counts_23 : decode cX8_counts 23 = .ok (.iaload, 1) := bdX8_counts_0 (23, .iaload, 1) (List.mem_of_getElem? (i := 16) rfl)
theorem dX8_counts_24 : decode cX8_counts 24 = .ok (.sipush 1000, 3) := bdX8_counts_0 (24, .sipush 1000, 3) (List.mem_of_getElem? (i := 17) rfl)
theorem dX8_counts_28 : decode cX8_counts 28 = .ok (.iload_n 1, 1) := bdX8_counts_0 (28, .iload_n 1, 1) (List.mem_of_getElem? (i := 18) rfl)
theorem dX8_counts_29 : decode cX8_counts 29 = .ok (.if_icmp .ne 5, 3) := bdX8_counts_0 (29, .if_icmp .ne 5, 3) (List.mem_of_getElem? (i := 19) rfl)
theorem dX8_counts_32 : decode cX8_counts 32 = .ok (.iload_n 2, 1) := bdX8_counts_0 (32, .iload_n 2, 1) (List.mem_of_getElem? (i := 20) rfl)
theorem dX8_counts_33 : decode cX8_counts 33 = .ok (.ireturn, 1) := bdX8_counts_0 (33, .ireturn, 1) (List.mem_of_getElem? (i := 21) rfl)
theorem dX8_counts_34 : decode cX8_counts 34 = .ok (.iinc 2 (-1), 3) := bdX8_counts_0 (34, .iinc 2 (-1), 3) (List.mem_of_getElem? (i := 22) rfl)
theorem dX8_counts_37 : decode cX8_counts 37 = .ok (.goto (-28), 3) := bdX8_counts_0 (37, .goto (-28), 3) (List.mem_of_getElem? (i := 23) rfl)
theorem dX8_counts_40 : decode cX8_counts 40 = .ok (.iconst (-1), 1) := bdX8_counts_0 (40, .iconst (-1), 1) (List.mem_of_getElem? (i := 24) rfl)
theorem dX8_counts_41 : decode cX8_counts 41 = .ok (.ireturn, 1) := bdX8_counts_0 (41, .ireturn, 1) (List.mem_of_getElem? (i := 25) rfl)
theorem dX8_counts_27 : decode cX8_counts 27 = .ok (.idiv, 1) := by decide +kernel
def LX8_counts_9 (ln : Nat → Nat) (post : Int32 → HC → Prop) : Nat → HC → Nat → Int32 → Int32 → Prop
  | 0 => fun _ _ _ _ => False
  | n9 + 1 => fun S x0 x1 x2 => if x2 < 0 then (post (-1 : Int32) S) else (dn_ (hR S x0 0) fun b1 => lt_ ((2 : Int32) * x2) fun z2 => lt_ ((89 : Int32) + z2) fun z3 => al_ (ln b1) z3 (hI S b1) fun z4 => ne_ (1000 : Int32) <| lt_ (z4 / (1000 : Int32)) fun z5 => if z5 = x1 then (post x2 S) else (lt_ (x2 + (-1 : Int32)) fun z6 => (LX8_counts_9 ln post n9) S x0 x1 z6))
def wpX8_counts (ln : Nat → Nat) (S : HC) (a0 : Nat) (a1 : Int32) (post : Int32 → HC → Prop) : Prop := dn_ (hR S a0 0) fun b7 => al_ (ln b7) (4 : Int32) (hI S b7) fun z8 => lt_ (z8 - (1 : Int32)) fun z9 => ∃ n9, LX8_counts_9 ln post n9 S a0 a1 z9
abbrev rmX8_counts : Room := { frames := 0, cells := 0, slots := 0, locals := 0 }
set_option maxHeartbeats 4000000 in
set_option maxRecDepth 100000 in
theorem ctX8_counts {l : Launch} {g : GX} {N : Nat} {ln : Nat → Nat} {S : HC} {a0 : Nat} {a1 : Int32} {post : Int32 → HC → Prop} (hr_a0 : a0 < N) (hk_a0 : kd a0 = 8) (h : wpX8_counts ln S a0 a1 post) : Met l yX8_counts (Cond.code yX8_counts prog_10_method_69_code 3 (Option.some Jvm.ClassFile.FieldType.int) :: gtbl) rmX8_counts (va_Pc [.ref (gz g + a0), .int a1] (AtP g N ln S)) (QI g N ln post) 0 0 (gF g) := by
  refine m_of (by decide) (Nat.le_of_ble_eq_true rfl) ?_
  intro p e s m below meth c ls F hr I hl
  have hl : lv_has ls 3 [(0, .ref (gz g + a0)), (1, .int a1)] := hl
  unfold wpX8_counts at h
  have hl_9 : ∀ n9 : Nat, ∀ (S : HC) (H : Heap) (locs : List Loc) (ls : Array Slot) (x0 : Nat) (x1 : Int32) (x2 : Int32), x0 < N → kd x0 = 8 → LX8_counts_9 ln post n9 S x0 x1 x2 → Inv g N ln S s H locs → lv_has ls 3 [(0, .ref (gz g + x0)), (1, .int x1), (2, .int x2)] → W p l e rmX8_counts s m ([.ref (gz g + a0), .int a1] : List Value).toArray below meth c H locs 0 0 (MQ below (QI g N ln post) ([.ref (gz g + a0), .int a1] : List Value).toArray s 0 0 (gF g)) (F0 m 9 ls []) := by
    intro n9
    induction n9 with
    | zero =>
      intro S H locs ls x0 x1 x2 hr_x0 hk_x0 h I hl
      exact h.elim
    | succ n9 ih =>
      have hk9 := ih
      intro S H locs ls x0 x1 x2 hr_x0 hk_x0 h I hl
      rw [LX8_counts_9] at h
      refine lv_iload_n F.1 F.2.1 dX8_counts_9 rfl (lv_at hl 2 rfl) ?_
      refine r_if_lt (tgt := 40) F dX8_counts_10 (by decide) h (fun h => ?_) (fun h => ?_)
      · refine lv_iconst (v := -1) F.1 F.2.1 dX8_counts_40 (by decide) ?_
        exact r_ireturn F I ⟨hr.1, hr.2.1, trivial⟩ h dX8_counts_41
      · refine lv_aload_n F.1 F.2.1 dX8_counts_13 rfl (lv_at hl 0 rfl) ?_
        refine r_getN F I hr_x0 hk_x0 fX8_9 (f := 9) rfl (by decide) dX8_counts_14 h (fun b1 hr_b1 hk_b1 h => ?_)
        refine lv_bipush (v := 89) F.1 F.2.1 dX8_counts_17 (by decide) ?_
        refine lv_iconst (v := 2) F.1 F.2.1 dX8_counts_19 (by decide) ?_
        refine lv_iload_n F.1 F.2.1 dX8_counts_20 rfl (lv_at hl 2 rfl) ?_
        refine r_imul F dX8_counts_21 h (fun z2 h => ?_)
        refine r_iadd F dX8_counts_22 h (fun z3 h => ?_)
        refine r_ald F I hr_b1 hk_b1 dX8_counts_23 h (fun z4 h => ?_)
        refine lv_sipush (v := 1000) F.1 F.2.1 dX8_counts_24 (by decide) ?_
        refine r_idiv F dX8_counts_27 h (fun z5 h => ?_)
        refine lv_iload_n F.1 F.2.1 dX8_counts_28 rfl (lv_at hl 1 rfl) ?_
        refine r_icmp_ne (tgt := 34) F dX8_counts_29 (by decide) h (fun h => ?_) (fun h => ?_)
        · obtain ⟨z6, e_z6, h⟩ := lt_x h
          refine lv_iinc (v := z6) (lv' := [(2, .int z6), (0, .ref (gz g + x0)), (1, .int x1)]) F.1 F.2.1 dX8_counts_34 hl (k := 2) rfl (by rw [e_z6]; rfl) (by decide) rfl (fun ls hl => ?_)
          refine lv_goto (tgt := 9) F.1 F.2.1 dX8_counts_37 (by decide) ?_
          exact hk9 S _ _ _ x0 x1 z6 hr_x0 hk_x0 h I (lv_sub hl [1, 2, 0] rfl)
        · refine lv_iload_n F.1 F.2.1 dX8_counts_32 rfl (lv_at hl 2 rfl) ?_
          exact r_ireturn F I ⟨hr.1, hr.2.1, trivial⟩ h dX8_counts_33
  refine lv_aload_n F.1 F.2.1 dX8_counts_0 rfl (lv_at hl 0 rfl) ?_
  refine r_getN F I hr_a0 hk_a0 fX8_9 (f := 9) rfl (by decide) dX8_counts_1 h (fun b7 hr_b7 hk_b7 h => ?_)
  refine lv_iconst (v := 4) F.1 F.2.1 dX8_counts_4 (by decide) ?_
  refine r_ald F I hr_b7 hk_b7 dX8_counts_5 h (fun z8 h => ?_)
  refine lv_iconst (v := 1) F.1 F.2.1 dX8_counts_6 (by decide) ?_
  refine r_isub F dX8_counts_7 h (fun z9 h => ?_)
  refine lv_istore_n (lv' := [(2, .int z9), (0, .ref (gz g + a0)), (1, .int a1)]) F.1 F.2.1 dX8_counts_8 rfl hl (by decide) rfl (fun ls hl => ?_)
  obtain ⟨n9, h⟩ := h
  exact hl_9 n9 S _ _ _ a0 a1 z9 hr_a0 hk_a0 h I (lv_sub hl [1, 2, 0] rfl)
theorem bdX8_worksOut_0 : ∀ q ∈ ([(0, .iconst 0, 1), (1, .istore_n 2, 1), (2, .aload_n 0, 1), (3, .getfield 9, 3), (6, .bipush 89, 2), (8, .iconst 2, 1), (9, .iload_n 1, 1), (10, .imul, 1), (11, .iadd, 1), (12, .iaload, 1), (13, .sipush 1000, 3), (16, .irem, 1), (17, .istore_n 3, 1), (18, .iconst 0, 1), (19, .istore 4, 2), (21, .iload 4, 2), (23, .iload_n 3, 1), (24, .if_icmp .ge 131, 3), (27, .aload_n 0, 1), (28, .getfield 9, 3), (31, .bipush 117, 2), (33, .bipush 96, 2), (35, .iload_n 1, 1), (36, .imul, 1), (37, .iadd, 1), (38, .iload 4, 2), (40, .iadd, 1), (41, .iaload, 1), (42, .istore 5, 2), (44, .iload 5, 2), (46, .ifCond .lt 39, 3), (49, .aload_n 0, 1), (50, .getfield 45, 3), (53, .iload_n 2, 1), (54, .iload 5, 2), (56, .sipush 10000, 3), (59, .if_icmp .ge 8, 3), (62, .iload 5, 2), (64, .goto 14, 3), (67, .aload_n 0, 1)] : List (Nat × Jvm.ClassFile.Instr × Nat)), decode cX8_worksOut q.1 = .ok q.2 := chk_ok _ 0 _ rfl (by decide +kernel)
theorem dX8_worksOut_0 : decode cX8_worksOut 0 = .ok (.iconst 0, 1) := bdX8_worksOut_0 (0, .iconst 0, 1) (List.mem_of_getElem? (i := 0) rfl)
theorem dX8_worksOut_1 : decode cX8_worksOut 1 = .ok (.istore_n 2, 1) := bdX8_worksOut_0 (1, .istore_n 2, 1) (List.mem_of_getElem? (i := 1) rfl)
theorem dX8_worksOut_2 : decode cX8_worksOut 2 = .ok (.aload_n 0, 1) := bdX8_worksOut_0 (2, .aload_n 0, 1) (List.mem_of_getElem? (i := 2) rfl)
theorem dX8_worksOut_3 : decode cX8_worksOut 3 = .ok (.getfield 9, 3) := bdX8_worksOut_0 (3, .getfield 9, 3) (List.mem_of_getElem? (i := 3) rfl)
theorem dX8_worksOut_6 : decode cX8_worksOut 6 = .ok (.bipush 89, 2) := bdX8_worksOut_0 (6, .bipush 89, 2) (List.mem_of_getElem? (i := 4) rfl)
theorem dX8_worksOut_8 : decode cX8_worksOut 8 = .ok (.iconst 2, 1) := bdX8_worksOut_0 (8, .iconst 2, 1) (List.mem_of_getElem? (i := 5) rfl)
theorem dX8_worksOut_9 : decode cX8_worksOut 9 = .ok (.iload_n 1, 1) := bdX8_worksOut_0 (9, .iload_n 1, 1) (List.mem_of_getElem? (i := 6) rfl)
theorem dX8_worksOut_10 : decode cX8_worksOut 10 = .ok (.imul, 1) := bdX8_worksOut_0 (10, .imul, 1) (List.mem_of_getElem? (i := 7) rfl)
theorem dX8_worksOut_11 : decode cX8_worksOut 11 = .ok (.iadd, 1) := bdX8_worksOut_0 (11, .iadd, 1) (List.mem_of_getElem? (i := 8) rfl)
theorem dX8_worksOut_12 : decode cX8_worksOut 12 = .ok (.iaload, 1) := bdX8_worksOut_0 (12, .iaload, 1) (List.mem_of_getElem? (i := 9) rfl)
theorem dX8_worksOut_13 : decode cX8_worksOut 13 = .ok (.sipush 1000, 3) := bdX8_worksOut_0 (13, .sipush 1000, 3) (List.mem_of_getElem? (i := 10) rfl)
theorem dX8_worksOut_16 : decode cX8_worksOut 16 = .ok (.irem, 1) := bdX8_worksOut_0 (16, .irem, 1) (List.mem_of_getElem? (i := 11) rfl)
theorem dX8_worksOut_17 : decode cX8_worksOut 17 = .ok (.istore_n 3, 1) := bdX8_worksOut_0 (17, .istore_n 3, 1) (List.mem_of_getElem? (i := 12) rfl)
theorem dX8_worksOut_18 : decode cX8_worksOut 18 = .ok (.iconst 0, 1) := bdX8_worksOut_0 (18, .iconst 0, 1) (List.mem_of_getElem? (i := 13) rfl)
theorem dX8_worksOut_19 : decode cX8_worksOut 19 = .ok (.istore 4, 2) := bdX8_worksOut_0 (19, .istore 4, 2) (List.mem_of_getElem? (i := 14) rfl)
theorem dX8_worksOut_21 : decode cX8_worksOut 21 = .ok (.iload 4, 2) := bdX8_worksOut_0 (21, .iload 4, 2) (List.mem_of_getElem? (i := 15) rfl)
theorem dX8_worksOut_23 : decode cX8_worksOut 23 = .ok (.iload_n 3, 1) := bdX8_worksOut_0 (23, .iload_n 3, 1) (List.mem_of_getElem? (i := 16) rfl)
theorem dX8_worksOut_24 : decode cX8_worksOut 24 = .ok (.if_icmp .ge 131, 3) := bdX8_worksOut_0 (24, .if_icmp .ge 131, 3) (List.mem_of_getElem? (i := 17) rfl)
theorem dX8_worksOut_27 : decode cX8_worksOut 27 = .ok (.aload_n 0, 1) := bdX8_worksOut_0 (27, .aload_n 0, 1) (List.mem_of_getElem? (i := 18) rfl)
theorem dX8_worksOut_28 : decode cX8_worksOut 28 = .ok (.getfield 9, 3) := bdX8_worksOut_0 (28, .getfield 9, 3) (List.mem_of_getElem? (i := 19) rfl)
theorem dX8_worksOut_31 : decode cX8_worksOut 31 = .ok (.bipush 117, 2) := bdX8_worksOut_0 (31, .bipush 117, 2) (List.mem_of_getElem? (i := 20) rfl)
theorem dX8_worksOut_33 : decode cX8_worksOut 33 = .ok (.bipush 96, 2) := bdX8_worksOut_0 (33, .bipush 96, 2) (List.mem_of_getElem? (i := 21) rfl)
theorem dX8_worksOut_35 : decode cX8_worksOut 35 = .ok (.iload_n 1, 1) := bdX8_worksOut_0 (35, .iload_n 1, 1) (List.mem_of_getElem? (i := 22) rfl)
theorem dX8_worksOut_36 : decode cX8_worksOut 36 = .ok (.imul, 1) := bdX8_worksOut_0 (36, .imul, 1) (List.mem_of_getElem? (i := 23) rfl)
theorem dX8_worksOut_37 : decode cX8_worksOut 37 = .ok (.iadd, 1) := bdX8_worksOut_0 (37, .iadd, 1) (List.mem_of_getElem? (i := 24) rfl)
theorem dX8_worksOut_38 : decode cX8_worksOut 38 = .ok (.iload 4, 2) := bdX8_worksOut_0 (38, .iload 4, 2) (List.mem_of_getElem? (i := 25) rfl)
theorem dX8_worksOut_40 : decode cX8_worksOut 40 = .ok (.iadd, 1) := bdX8_worksOut_0 (40, .iadd, 1) (List.mem_of_getElem? (i := 26) rfl)
theorem dX8_worksOut_41 : decode cX8_worksOut 41 = .ok (.iaload, 1) := bdX8_worksOut_0 (41, .iaload, 1) (List.mem_of_getElem? (i := 27) rfl)
theorem dX8_worksOut_42 : decode cX8_worksOut 42 = .ok (.istore 5, 2) := bdX8_worksOut_0 (42, .istore 5, 2) (List.mem_of_getElem? (i := 28) rfl)
theorem dX8_worksOut_44 : decode cX8_worksOut 44 = .ok (.iload 5, 2) := bdX8_worksOut_0 (44, .iload 5, 2) (List.mem_of_getElem? (i := 29) rfl)
theorem dX8_worksOut_46 : decode cX8_worksOut 46 = .ok (.ifCond .lt 39, 3) := bdX8_worksOut_0 (46, .ifCond .lt 39, 3) (List.mem_of_getElem? (i := 30) rfl)
theorem dX8_worksOut_49 : decode cX8_worksOut 49 = .ok (.aload_n 0, 1) := bdX8_worksOut_0 (49, .aload_n 0, 1) (List.mem_of_getElem? (i := 31) rfl)
theorem dX8_worksOut_50 : decode cX8_worksOut 50 = .ok (.getfield 45, 3) := bdX8_worksOut_0 (50, .getfield 45, 3) (List.mem_of_getElem? (i := 32) rfl)
theorem dX8_worksOut_53 : decode cX8_worksOut 53 = .ok (.iload_n 2, 1) := bdX8_worksOut_0 (53, .iload_n 2, 1) (List.mem_of_getElem? (i := 33) rfl)
theorem dX8_worksOut_54 : decode cX8_worksOut 54 = .ok (.iload 5, 2) := bdX8_worksOut_0 (54, .iload 5, 2) (List.mem_of_getElem? (i := 34) rfl)
theorem dX8_worksOut_56 : decode cX8_worksOut 56 = .ok (.sipush 10000, 3) := bdX8_worksOut_0 (56, .sipush 10000, 3) (List.mem_of_getElem? (i := 35) rfl)
theorem dX8_worksOut_59 : decode cX8_worksOut 59 = .ok (.if_icmp .ge 8, 3) := bdX8_worksOut_0 (59, .if_icmp .ge 8, 3) (List.mem_of_getElem? (i := 36) rfl)
theorem dX8_worksOut_62 : decode cX8_worksOut 62 = .ok (.iload 5, 2) := bdX8_worksOut_0 (62, .iload 5, 2) (List.mem_of_getElem? (i := 37) rfl)
theorem dX8_worksOut_64 : decode cX8_worksOut 64 = .ok (.goto 14, 3) := bdX8_worksOut_0 (64, .goto 14, 3) (List.mem_of_getElem? (i := 38) rfl)
theorem dX8_worksOut_67 : decode cX8_worksOut 67 = .ok (.aload_n 0, 1) := bdX8_worksOut_0 (67, .aload_n 0, 1) (List.mem_of_getElem? (i := 39) rfl)
theorem bdX8_worksOut_68 : ∀ q ∈ ([(68, .getfield 48, 3), (71, .iload 5, 2), (73, .sipush 10000, 3), (76, .isub, 1), (77, .iaload, 1), (78, .iastore, 1), (79, .iinc 2 1, 3), (82, .goto 67, 3), (85, .iload 5, 2), (87, .bipush (-10), 2), (89, .if_icmp .ne 30, 3), (92, .aload_n 0, 1), (93, .getfield 45, 3), (96, .iload_n 2, 1), (97, .iconst 1, 1), (98, .isub, 1), (99, .aload_n 0, 1), (100, .getfield 45, 3), (103, .iload_n 2, 1), (104, .iconst 1, 1), (105, .isub, 1), (106, .iaload, 1), (107, .ifCond .ne 7, 3), (110, .iconst 1, 1), (111, .goto 4, 3), (114, .iconst 0, 1), (115, .iastore, 1), (116, .goto 33, 3), (119, .iinc 2 (-1), 3), (122, .aload_n 0, 1), (123, .getfield 45, 3), (126, .iload_n 2, 1), (127, .iconst 1, 1), (128, .isub, 1), (129, .iload 5, 2), (131, .aload_n 0, 1), (132, .getfield 45, 3), (135, .iload_n 2, 1), (136, .iconst 1, 1), (137, .isub, 1)] : List (Nat × Jvm.ClassFile.Instr × Nat)), decode cX8_worksOut q.1 = .ok q.2 := chk_ok _ 68 _ rfl (by decide +kernel)
theorem dX8_worksOut_68 : decode cX8_worksOut 68 = .ok (.getfield 48, 3) := bdX8_worksOut_68 (68, .getfield 48, 3) (List.mem_of_getElem? (i := 0) rfl)
theorem dX8_worksOut_71 : decode cX8_worksOut 71 = .ok (.iload 5, 2) := bdX8_worksOut_68 (71, .iload 5, 2) (List.mem_of_getElem? (i := 1) rfl)
theorem dX8_worksOut_73 : decode cX8_worksOut 73 = .ok (.sipush 10000, 3) := bdX8_worksOut_68 (73, .sipush 10000, 3) (List.mem_of_getElem? (i := 2) rfl)
theorem dX8_worksOut_76 : decode cX8_worksOut 76 = .ok (.isub, 1) := bdX8_worksOut_68 (76, .isub, 1) (List.mem_of_getElem? (i := 3) rfl)
theorem dX8_worksOut_77 : decode cX8_worksOut 77 = .ok (.iaload, 1) := bdX8_worksOut_68 (77, .iaload, 1) (List.mem_of_getElem? (i := 4) rfl)
theorem dX8_worksOut_78 : decode cX8_worksOut 78 = .ok (.iastore, 1) := bdX8_worksOut_68 (78, .iastore, 1) (List.mem_of_getElem? (i := 5) rfl)
theorem dX8_worksOut_79 : decode cX8_worksOut 79 = .ok (.iinc 2 1, 3) := bdX8_worksOut_68 (79, .iinc 2 1, 3) (List.mem_of_getElem? (i := 6) rfl)
theorem dX8_worksOut_82 : decode cX8_worksOut 82 = .ok (.goto 67, 3) := bdX8_worksOut_68 (82, .goto 67, 3) (List.mem_of_getElem? (i := 7) rfl)
theorem dX8_worksOut_85 : decode cX8_worksOut 85 = .ok (.iload 5, 2) := bdX8_worksOut_68 (85, .iload 5, 2) (List.mem_of_getElem? (i := 8) rfl)
theorem dX8_worksOut_87 : decode cX8_worksOut 87 = .ok (.bipush (-10), 2) := bdX8_worksOut_68 (87, .bipush (-10), 2) (List.mem_of_getElem? (i := 9) rfl)
theorem dX8_worksOut_89 : decode cX8_worksOut 89 = .ok (.if_icmp .ne 30, 3) := bdX8_worksOut_68 (89, .if_icmp .ne 30, 3) (List.mem_of_getElem? (i := 10) rfl)
theorem dX8_worksOut_92 : decode cX8_worksOut 92 = .ok (.aload_n 0, 1) := bdX8_worksOut_68 (92, .aload_n 0, 1) (List.mem_of_getElem? (i := 11) rfl)
theorem dX8_worksOut_93 : decode cX8_worksOut 93 = .ok (.getfield 45, 3) := bdX8_worksOut_68 (93, .getfield 45, 3) (List.mem_of_getElem? (i := 12) rfl)
theorem dX8_worksOut_96 : decode cX8_worksOut 96 = .ok (.iload_n 2, 1) := bdX8_worksOut_68 (96, .iload_n 2, 1) (List.mem_of_getElem? (i := 13) rfl)
theorem dX8_worksOut_97 : decode cX8_worksOut 97 = .ok (.iconst 1, 1) := bdX8_worksOut_68 (97, .iconst 1, 1) (List.mem_of_getElem? (i := 14) rfl)
theorem dX8_worksOut_98 : decode cX8_worksOut 98 = .ok (.isub, 1) := bdX8_worksOut_68 (98, .isub, 1) (List.mem_of_getElem? (i := 15) rfl)
theorem dX8_worksOut_99 : decode cX8_worksOut 99 = .ok (.aload_n 0, 1) := bdX8_worksOut_68 (99, .aload_n 0, 1) (List.mem_of_getElem? (i := 16) rfl)
theorem dX8_worksOut_100 : decode cX8_worksOut 100 = .ok (.getfield 45, 3) := bdX8_worksOut_68 (100, .getfield 45, 3) (List.mem_of_getElem? (i := 17) rfl)
theorem dX8_worksOut_103 : decode cX8_worksOut 103 = .ok (.iload_n 2, 1) := bdX8_worksOut_68 (103, .iload_n 2, 1) (List.mem_of_getElem? (i := 18) rfl)
theorem dX8_worksOut_104 : decode cX8_worksOut 104 = .ok (.iconst 1, 1) := bdX8_worksOut_68 (104, .iconst 1, 1) (List.mem_of_getElem? (i := 19) rfl)
theorem dX8_worksOut_105 : decode cX8_worksOut 105 = .ok (.isub, 1) := bdX8_worksOut_68 (105, .isub, 1) (List.mem_of_getElem? (i := 20) rfl)
theorem dX8_worksOut_106 : decode cX8_worksOut 106 = .ok (.iaload, 1) := bdX8_worksOut_68 (106, .iaload, 1) (List.mem_of_getElem? (i := 21) rfl)
theorem dX8_worksOut_107 : decode cX8_worksOut 107 = .ok (.ifCond .ne 7, 3) := bdX8_worksOut_68 (107, .ifCond .ne 7, 3) (List.mem_of_getElem? (i := 22) rfl)
theorem dX8_worksOut_110 : decode cX8_worksOut 110 = .ok (.iconst 1, 1) := bdX8_worksOut_68 (110, .iconst 1, 1) (List.mem_of_getElem? (i := 23) rfl)
theorem dX8_worksOut_111 : decode cX8_worksOut 111 = .ok (.goto 4, 3) := bdX8_worksOut_68 (111, .goto 4, 3) (List.mem_of_getElem? (i := 24) rfl)
theorem dX8_worksOut_114 : decode cX8_worksOut 114 = .ok (.iconst 0, 1) := bdX8_worksOut_68 (114, .iconst 0, 1) (List.mem_of_getElem? (i := 25) rfl)
theorem dX8_worksOut_115 : decode cX8_worksOut 115 = .ok (.iastore, 1) := bdX8_worksOut_68 (115, .iastore, 1) (List.mem_of_getElem? (i := 26) rfl)
theorem dX8_worksOut_116 : decode cX8_worksOut 116 = .ok (.goto 33, 3) := bdX8_worksOut_68 (116, .goto 33, 3) (List.mem_of_getElem? (i := 27) rfl)
theorem dX8_worksOut_119 : decode cX8_worksOut 119 = .ok (.iinc 2 (-1), 3) := bdX8_worksOut_68 (119, .iinc 2 (-1), 3) (List.mem_of_getElem? (i := 28) rfl)
theorem dX8_worksOut_122 : decode cX8_worksOut 122 = .ok (.aload_n 0, 1) := bdX8_worksOut_68 (122, .aload_n 0, 1) (List.mem_of_getElem? (i := 29) rfl)
theorem dX8_worksOut_123 : decode cX8_worksOut 123 = .ok (.getfield 45, 3) := bdX8_worksOut_68 (123, .getfield 45, 3) (List.mem_of_getElem? (i := 30) rfl)
theorem dX8_worksOut_126 : decode cX8_worksOut 126 = .ok (.iload_n 2, 1) := bdX8_worksOut_68 (126, .iload_n 2, 1) (List.mem_of_getElem? (i := 31) rfl)
theorem dX8_worksOut_127 : decode cX8_worksOut 127 = .ok (.iconst 1, 1) := bdX8_worksOut_68 (127, .iconst 1, 1) (List.mem_of_getElem? (i := 32) rfl)
theorem dX8_worksOut_128 : decode cX8_worksOut 128 = .ok (.isub, 1) := bdX8_worksOut_68 (128, .isub, 1) (List.mem_of_getElem? (i := 33) rfl)
theorem dX8_worksOut_129 : decode cX8_worksOut 129 = .ok (.iload 5, 2) := bdX8_worksOut_68 (129, .iload 5, 2) (List.mem_of_getElem? (i := 34) rfl)
theorem dX8_worksOut_131 : decode cX8_worksOut 131 = .ok (.aload_n 0, 1) := bdX8_worksOut_68 (131, .aload_n 0, 1) (List.mem_of_getElem? (i := 35) rfl)
theorem dX8_worksOut_132 : decode cX8_worksOut 132 = .ok (.getfield 45, 3) := bdX8_worksOut_68 (132, .getfield 45, 3) (List.mem_of_getElem? (i := 36) rfl)
theorem dX8_worksOut_135 : decode cX8_worksOut 135 = .ok (.iload_n 2, 1) := bdX8_worksOut_68 (135, .iload_n 2, 1) (List.mem_of_getElem? (i := 37) rfl)
theorem dX8_worksOut_136 : decode cX8_worksOut 136 = .ok (.iconst 1, 1) := bdX8_worksOut_68 (136, .iconst 1, 1) (List.mem_of_getElem? (i := 38) rfl)
theorem dX8_worksOut_137 : decode cX8_worksOut 137 = .ok (.isub, 1) := bdX8_worksOut_68 (137, .isub, 1) (List.mem_of_getElem? (i := 39) rfl)
theorem bdX8_worksOut_138 : ∀ q ∈ ([(138, .iaload, 1), (139, .aload_n 0, 1), (140, .getfield 45, 3), (143, .iload_n 2, 1), (144, .iaload, 1), (145, .invokestatic 255, 3), (148, .iastore, 1), (149, .iinc 4 1, 3), (152, .goto (-131), 3), (155, .aload_n 0, 1), (156, .getfield 45, 3), (159, .iconst 0, 1), (160, .iaload, 1), (161, .ireturn, 1)] : List (Nat × Jvm.ClassFile.Instr × Nat)), decode cX8_worksOut q.1 = .ok q.2 := chk_ok _ 138 _ rfl (by decide +kernel)
theorem dX8_worksOut_138 : decode cX8_worksOut 138 = .ok (.iaload, 1) := bdX8_worksOut_138 (138, .iaload, 1) (List.mem_of_getElem? (i := 0) rfl)
theorem dX8_worksOut_139 : decode cX8_worksOut 139 = .ok (.aload_n 0, 1) := bdX8_worksOut_138 (139, .aload_n 0, 1) (List.mem_of_getElem? (i := 1) rfl)
theorem dX8_worksOut_140 : decode cX8_worksOut 140 = .ok (.getfield 45, 3) := bdX8_worksOut_138 (140, .getfield 45, 3) (List.mem_of_getElem? (i := 2) rfl)
theorem dX8_worksOut_143 : decode cX8_worksOut 143 = .ok (.iload_n 2, 1) := bdX8_worksOut_138 (143, .iload_n 2, 1) (List.mem_of_getElem? (i := 3) rfl)
theorem dX8_worksOut_144 : decode cX8_worksOut 144 = .ok (.iaload, 1) := bdX8_worksOut_138 (144, .iaload, 1) (List.mem_of_getElem? (i := 4) rfl)
theorem dX8_worksOut_145 : decode cX8_worksOut 145 = .ok (.invokestatic 255, 3) := bdX8_worksOut_138 (145, .invokestatic 255, 3) (List.mem_of_getElem? (i := 5) rfl)
theorem dX8_worksOut_148 : decode cX8_worksOut 148 = .ok (.iastore, 1) := bdX8_worksOut_138 (148, .iastore, 1) (List.mem_of_getElem? (i := 6) rfl)
theorem dX8_worksOut_149 : decode cX8_worksOut 149 = .ok (.iinc 4 1, 3) := bdX8_worksOut_138 (149, .iinc 4 1, 3) (List.mem_of_getElem? (i := 7) rfl)
theorem dX8_worksOut_152 : decode cX8_worksOut 152 = .ok (.goto (-131), 3) := bdX8_worksOut_138 (152, .goto (-131), 3) (List.mem_of_getElem? (i := 8) rfl)
theorem dX8_worksOut_155 : decode cX8_worksOut 155 = .ok (.aload_n 0, 1) := bdX8_worksOut_138 (155, .aload_n 0, 1) (List.mem_of_getElem? (i := 9) rfl)
theorem dX8_worksOut_156 : decode cX8_worksOut 156 = .ok (.getfield 45, 3) := bdX8_worksOut_138 (156, .getfield 45, 3) (List.mem_of_getElem? (i := 10) rfl)
theorem dX8_worksOut_159 : decode cX8_worksOut 159 = .ok (.iconst 0, 1) := bdX8_worksOut_138 (159, .iconst 0, 1) (List.mem_of_getElem? (i := 11) rfl)
theorem dX8_worksOut_160 : decode cX8_worksOut 160 = .ok (.iaload, 1) := bdX8_worksOut_138 (160, .iaload, 1) (List.mem_of_getElem? (i := 12) rfl)
theorem dX8_worksOut_161 : decode cX8_worksOut 161 = .ok (.ireturn, 1) := bdX8_worksOut_138 (161, .ireturn, 1) (List.mem_of_getElem? (i := 13) rfl)
theorem fX8_45 : fldOK RX8 45 8 22 (.array .int) true := ⟨_, _, _, tyX8, ⟨rfl, iX8, by decide, rfl, by decide⟩, tw_959, ⟨tyX8_ok, nmX8⟩, by decide +kernel, rfl, rfl⟩
theorem kX8_255 : mthS RX8 255 yX8_two prog_10_method_71_code 3 (Option.some Jvm.ClassFile.FieldType.int) 3 := ⟨⟨⟨tw_1110, tw_67, tw_1112⟩, rfl, by decide +kernel⟩, tw_1111⟩
theorem fX8_48 : fldOK RX8 48 8 23 (.array .int) true := ⟨_, _, _, tyX8, ⟨rfl, iX8, by decide, rfl, by decide⟩, tw_960, ⟨tyX8_ok, nmX8⟩, by decide +kernel, rfl, rfl⟩
def BX8_worksOut_149 (ln : Nat → Nat) (post : Int32 → HC → Prop) (K21 : HC → Nat → Int32 → Int32 → Int32 → Int32 → Prop) (S : HC) (x0 : Nat) (x1 : Int32) (x2 : Int32) (x3 : Int32) (x4 : Int32) : Prop := lt_ (x4 + (1 : Int32)) fun z1 => K21 S x0 x1 x2 x3 z1
def BX8_worksOut_115 (ln : Nat → Nat) (post : Int32 → HC → Prop) (K21 : HC → Nat → Int32 → Int32 → Int32 → Int32 → Prop) (S : HC) (x0 : Nat) (x1 : Int32) (x2 : Int32) (x3 : Int32) (x4 : Int32) (t0 : Nat) (t1 : Int32) (t2 : Int32) : Prop := as_ (ln t0) t1 (fun j => sI S t0 j t2) fun S => BX8_worksOut_149 ln post K21 S x0 x1 x2 x3 x4
def BX8_worksOut_78 (ln : Nat → Nat) (post : Int32 → HC → Prop) (K21 : HC → Nat → Int32 → Int32 → Int32 → Int32 → Prop) (S : HC) (x0 : Nat) (x1 : Int32) (x2 : Int32) (x3 : Int32) (x4 : Int32) (t0 : Nat) (t1 : Int32) (t2 : Int32) : Prop := as_ (ln t0) t1 (fun j => sI S t0 j t2) fun S => lt_ (x2 + (1 : Int32)) fun z2 => BX8_worksOut_149 ln post K21 S x0 x1 z2 x3 x4
def LX8_worksOut_21 (ln : Nat → Nat) (post : Int32 → HC → Prop) : Nat → HC → Nat → Int32 → Int32 → Int32 → Int32 → Prop
  | 0 => fun _ _ _ _ _ _ => False
  | n21 + 1 => fun S x0 x1 x2 x3 x4 => if x3 ≤ x4 then (dn_ (hR S x0 22) fun b3 => al_ (ln b3) (0 : Int32) (hI S b3) fun z4 => post z4 S) else (dn_ (hR S x0 0) fun b5 => lt_ ((96 : Int32) * x1) fun z6 => lt_ ((117 : Int32) + z6) fun z7 => lt_ (z7 + x4) fun z8 => al_ (ln b5) z8 (hI S b5) fun z9 => if z9 < 0 then (if z9 = (-10 : Int32) then (dn_ (hR S x0 22) fun b19 => lt_ (x2 - (1 : Int32)) fun z20 => dn_ (hR S x0 22) fun b21 => lt_ (x2 - (1 : Int32)) fun z22 => al_ (ln b21) z22 (hI S b21) fun z23 => if z23 = 0 then (BX8_worksOut_115 ln post (LX8_worksOut_21 ln post n21) S x0 x1 x2 x3 x4 b19 z20 (1 : Int32)) else (BX8_worksOut_115 ln post (LX8_worksOut_21 ln post n21) S x0 x1 x2 x3 x4 b19 z20 (0 : Int32))) else (lt_ (x2 + (-1 : Int32)) fun z10 => dn_ (hR S x0 22) fun b11 => lt_ (z10 - (1 : Int32)) fun z12 => dn_ (hR S x0 22) fun b13 => lt_ (z10 - (1 : Int32)) fun z14 => al_ (ln b13) z14 (hI S b13) fun z15 => dn_ (hR S x0 22) fun b16 => al_ (ln b16) z10 (hI S b16) fun z17 => wpX8_two ln S z9 z15 z17 fun z18 S => as_ (ln b11) z12 (fun j => sI S b11 j z18) fun S => BX8_worksOut_149 ln post (LX8_worksOut_21 ln post n21) S x0 x1 z10 x3 x4)) else (dn_ (hR S x0 22) fun b24 => if (10000 : Int32) ≤ z9 then (dn_ (hR S x0 23) fun b25 => lt_ (z9 - (10000 : Int32)) fun z26 => al_ (ln b25) z26 (hI S b25) fun z27 => BX8_worksOut_78 ln post (LX8_worksOut_21 ln post n21) S x0 x1 x2 x3 x4 b24 x2 z27) else (BX8_worksOut_78 ln post (LX8_worksOut_21 ln post n21) S x0 x1 x2 x3 x4 b24 x2 z9)))
def wpX8_worksOut (ln : Nat → Nat) (S : HC) (a0 : Nat) (a1 : Int32) (post : Int32 → HC → Prop) : Prop := dn_ (hR S a0 0) fun b28 => lt_ ((2 : Int32) * a1) fun z29 => lt_ ((89 : Int32) + z29) fun z30 => al_ (ln b28) z30 (hI S b28) fun z31 => ne_ (1000 : Int32) <| lt_ (z31 - z31 / (1000 : Int32) * (1000 : Int32)) fun z32 => ∃ n21, LX8_worksOut_21 ln post n21 S a0 a1 (0 : Int32) z32 (0 : Int32)
abbrev rmX8_worksOut : Room := { frames := 1, cells := 0, slots := 0, locals := 22 }
set_option maxHeartbeats 4000000 in
set_option maxRecDepth 100000 in
theorem ctX8_worksOut {l : Launch} {g : GX} {N : Nat} {ln : Nat → Nat} {S : HC} {a0 : Nat} {a1 : Int32} {post : Int32 → HC → Prop} (hr_a0 : a0 < N) (hk_a0 : kd a0 = 8) (h : wpX8_worksOut ln S a0 a1 post) : Met l yX8_worksOut (Cond.code yX8_worksOut prog_10_method_72_code 6 (Option.some Jvm.ClassFile.FieldType.int) :: gtbl) rmX8_worksOut (va_Pc [.ref (gz g + a0), .int a1] (AtP g N ln S)) (QI g N ln post) 0 0 (gF g) := by
  refine m_of (by decide) (Nat.le_of_ble_eq_true rfl) ?_
  intro p e s m below meth c ls F hr I hl
  have hl : lv_has ls 6 [(0, .ref (gz g + a0)), (1, .int a1)] := hl
  unfold wpX8_worksOut at h
  have hl_21 : ∀ n21 : Nat, ∀ (S : HC) (H : Heap) (locs : List Loc) (ls : Array Slot) (x0 : Nat) (x1 : Int32) (x2 : Int32) (x3 : Int32) (x4 : Int32), x0 < N → kd x0 = 8 → LX8_worksOut_21 ln post n21 S x0 x1 x2 x3 x4 → Inv g N ln S s H locs → lv_has ls 6 [(0, .ref (gz g + x0)), (1, .int x1), (2, .int x2), (3, .int x3), (4, .int x4)] → W p l e rmX8_worksOut s m ([.ref (gz g + a0), .int a1] : List Value).toArray below meth c H locs 0 0 (MQ below (QI g N ln post) ([.ref (gz g + a0), .int a1] : List Value).toArray s 0 0 (gF g)) (F0 m 21 ls []) := by
    intro n21
    induction n21 with
    | zero =>
      intro S H locs ls x0 x1 x2 x3 x4 hr_x0 hk_x0 h I hl
      exact h.elim
    | succ n21 ih =>
      have hk21 := ih
      have hj_149 : ∀ (S : HC) (H : Heap) (locs : List Loc) (ls : Array Slot) (x0 : Nat) (x1 : Int32) (x2 : Int32) (x3 : Int32) (x4 : Int32), x0 < N → kd x0 = 8 → BX8_worksOut_149 ln post (LX8_worksOut_21 ln post n21) S x0 x1 x2 x3 x4 → Inv g N ln S s H locs → lv_has ls 6 [(0, .ref (gz g + x0)), (1, .int x1), (2, .int x2), (3, .int x3), (4, .int x4)] → W p l e rmX8_worksOut s m ([.ref (gz g + a0), .int a1] : List Value).toArray below meth c H locs 0 0 (MQ below (QI g N ln post) ([.ref (gz g + a0), .int a1] : List Value).toArray s 0 0 (gF g)) (F0 m 149 ls []) := by
        intro S H locs ls x0 x1 x2 x3 x4 hr_x0 hk_x0 h I hl
        unfold BX8_worksOut_149 at h
        obtain ⟨z1, e_z1, h⟩ := lt_x h
        refine lv_iinc (v := z1) (lv' := [(4, .int z1), (0, .ref (gz g + x0)), (1, .int x1), (2, .int x2), (3, .int x3)]) F.1 F.2.1 dX8_worksOut_149 hl (k := 4) rfl (by rw [e_z1]; rfl) (by decide) rfl (fun ls hl => ?_)
        refine lv_goto (tgt := 21) F.1 F.2.1 dX8_worksOut_152 (by decide) ?_
        exact hk21 S _ _ _ x0 x1 x2 x3 z1 hr_x0 hk_x0 h I (lv_sub hl [1, 2, 3, 4, 0] rfl)
      have hj_115 : ∀ (S : HC) (H : Heap) (locs : List Loc) (ls : Array Slot) (x0 : Nat) (x1 : Int32) (x2 : Int32) (x3 : Int32) (x4 : Int32) (t0 : Nat) (t1 : Int32) (t2 : Int32), x0 < N → kd x0 = 8 → t0 < N → kd t0 = 9 → BX8_worksOut_115 ln post (LX8_worksOut_21 ln post n21) S x0 x1 x2 x3 x4 t0 t1 t2 → Inv g N ln S s H locs → lv_has ls 6 [(0, .ref (gz g + x0)), (1, .int x1), (2, .int x2), (3, .int x3), (4, .int x4)] → W p l e rmX8_worksOut s m ([.ref (gz g + a0), .int a1] : List Value).toArray below meth c H locs 0 0 (MQ below (QI g N ln post) ([.ref (gz g + a0), .int a1] : List Value).toArray s 0 0 (gF g)) (F0 m 115 ls [.int t2, .int t1, .ref (gz g + t0)]) := by
        intro S H locs ls x0 x1 x2 x3 x4 t0 t1 t2 hr_x0 hk_x0 hr_t0 hk_t0 h I hl
        unfold BX8_worksOut_115 at h
        refine r_ast F I hr_t0 hk_t0 dX8_worksOut_115 h (fun S H locs I h => ?_)
        refine lv_goto (tgt := 149) F.1 F.2.1 dX8_worksOut_116 (by decide) ?_
        exact hj_149 S _ _ _ x0 x1 x2 x3 x4 hr_x0 hk_x0 h I (lv_sub hl [0, 1, 2, 3, 4] rfl)
      have hj_78 : ∀ (S : HC) (H : Heap) (locs : List Loc) (ls : Array Slot) (x0 : Nat) (x1 : Int32) (x2 : Int32) (x3 : Int32) (x4 : Int32) (t0 : Nat) (t1 : Int32) (t2 : Int32), x0 < N → kd x0 = 8 → t0 < N → kd t0 = 9 → BX8_worksOut_78 ln post (LX8_worksOut_21 ln post n21) S x0 x1 x2 x3 x4 t0 t1 t2 → Inv g N ln S s H locs → lv_has ls 6 [(0, .ref (gz g + x0)), (1, .int x1), (2, .int x2), (3, .int x3), (4, .int x4)] → W p l e rmX8_worksOut s m ([.ref (gz g + a0), .int a1] : List Value).toArray below meth c H locs 0 0 (MQ below (QI g N ln post) ([.ref (gz g + a0), .int a1] : List Value).toArray s 0 0 (gF g)) (F0 m 78 ls [.int t2, .int t1, .ref (gz g + t0)]) := by
        intro S H locs ls x0 x1 x2 x3 x4 t0 t1 t2 hr_x0 hk_x0 hr_t0 hk_t0 h I hl
        unfold BX8_worksOut_78 at h
        refine r_ast F I hr_t0 hk_t0 dX8_worksOut_78 h (fun S H locs I h => ?_)
        obtain ⟨z2, e_z2, h⟩ := lt_x h
        refine lv_iinc (v := z2) (lv' := [(2, .int z2), (0, .ref (gz g + x0)), (1, .int x1), (3, .int x3), (4, .int x4)]) F.1 F.2.1 dX8_worksOut_79 hl (k := 2) rfl (by rw [e_z2]; rfl) (by decide) rfl (fun ls hl => ?_)
        refine lv_goto (tgt := 149) F.1 F.2.1 dX8_worksOut_82 (by decide) ?_
        exact hj_149 S _ _ _ x0 x1 z2 x3 x4 hr_x0 hk_x0 h I (lv_sub hl [1, 2, 0, 3, 4] rfl)
      intro S H locs ls x0 x1 x2 x3 x4 hr_x0 hk_x0 h I hl
      rw [LX8_worksOut_21] at h
      refine lv_iload F.1 F.2.1 dX8_worksOut_21 (lv_at hl 4 rfl) ?_
      refine lv_iload_n F.1 F.2.1 dX8_worksOut_23 rfl (lv_at hl 3 rfl) ?_
      refine r_icmp_ge (tgt := 155) F dX8_worksOut_24 (by decide) h (fun h => ?_) (fun h => ?_)
      · refine lv_aload_n F.1 F.2.1 dX8_worksOut_155 rfl (lv_at hl 0 rfl) ?_
        refine r_getN F I hr_x0 hk_x0 fX8_45 (f := 9) rfl (by decide) dX8_worksOut_156 h (fun b3 hr_b3 hk_b3 h => ?_)
        refine lv_iconst (v := 0) F.1 F.2.1 dX8_worksOut_159 (by decide) ?_
        refine r_ald F I hr_b3 hk_b3 dX8_worksOut_160 h (fun z4 h => ?_)
        exact r_ireturn F I ⟨hr.1, hr.2.1, trivial⟩ h dX8_worksOut_161
      · refine lv_aload_n F.1 F.2.1 dX8_worksOut_27 rfl (lv_at hl 0 rfl) ?_
        refine r_getN F I hr_x0 hk_x0 fX8_9 (f := 9) rfl (by decide) dX8_worksOut_28 h (fun b5 hr_b5 hk_b5 h => ?_)
        refine lv_bipush (v := 117) F.1 F.2.1 dX8_worksOut_31 (by decide) ?_
        refine lv_bipush (v := 96) F.1 F.2.1 dX8_worksOut_33 (by decide) ?_
        refine lv_iload_n F.1 F.2.1 dX8_worksOut_35 rfl (lv_at hl 1 rfl) ?_
        refine r_imul F dX8_worksOut_36 h (fun z6 h => ?_)
        refine r_iadd F dX8_worksOut_37 h (fun z7 h => ?_)
        refine lv_iload F.1 F.2.1 dX8_worksOut_38 (lv_at hl 4 rfl) ?_
        refine r_iadd F dX8_worksOut_40 h (fun z8 h => ?_)
        refine r_ald F I hr_b5 hk_b5 dX8_worksOut_41 h (fun z9 h => ?_)
        refine lv_istore (lv' := [(5, .int z9), (0, .ref (gz g + x0)), (1, .int x1), (2, .int x2), (3, .int x3), (4, .int x4)]) F.1 F.2.1 dX8_worksOut_42 hl (by decide) rfl (fun ls hl => ?_)
        refine lv_iload F.1 F.2.1 dX8_worksOut_44 (lv_at hl 0 rfl) ?_
        refine r_if_lt (tgt := 85) F dX8_worksOut_46 (by decide) h (fun h => ?_) (fun h => ?_)
        · refine lv_iload F.1 F.2.1 dX8_worksOut_85 (lv_at hl 0 rfl) ?_
          refine lv_bipush (v := -10) F.1 F.2.1 dX8_worksOut_87 (by decide) ?_
          refine r_icmp_ne (tgt := 119) F dX8_worksOut_89 (by decide) h (fun h => ?_) (fun h => ?_)
          · obtain ⟨z10, e_z10, h⟩ := lt_x h
            refine lv_iinc (v := z10) (lv' := [(2, .int z10), (5, .int z9), (0, .ref (gz g + x0)), (1, .int x1), (3, .int x3), (4, .int x4)]) F.1 F.2.1 dX8_worksOut_119 hl (k := 3) rfl (by rw [e_z10]; rfl) (by decide) rfl (fun ls hl => ?_)
            refine lv_aload_n F.1 F.2.1 dX8_worksOut_122 rfl (lv_at hl 2 rfl) ?_
            refine r_getN F I hr_x0 hk_x0 fX8_45 (f := 9) rfl (by decide) dX8_worksOut_123 h (fun b11 hr_b11 hk_b11 h => ?_)
            refine lv_iload_n F.1 F.2.1 dX8_worksOut_126 rfl (lv_at hl 0 rfl) ?_
            refine lv_iconst (v := 1) F.1 F.2.1 dX8_worksOut_127 (by decide) ?_
            refine r_isub F dX8_worksOut_128 h (fun z12 h => ?_)
            refine lv_iload F.1 F.2.1 dX8_worksOut_129 (lv_at hl 1 rfl) ?_
            refine lv_aload_n F.1 F.2.1 dX8_worksOut_131 rfl (lv_at hl 2 rfl) ?_
            refine r_getN F I hr_x0 hk_x0 fX8_45 (f := 9) rfl (by decide) dX8_worksOut_132 h (fun b13 hr_b13 hk_b13 h => ?_)
            refine lv_iload_n F.1 F.2.1 dX8_worksOut_135 rfl (lv_at hl 0 rfl) ?_
            refine lv_iconst (v := 1) F.1 F.2.1 dX8_worksOut_136 (by decide) ?_
            refine r_isub F dX8_worksOut_137 h (fun z14 h => ?_)
            refine r_ald F I hr_b13 hk_b13 dX8_worksOut_138 h (fun z15 h => ?_)
            refine lv_aload_n F.1 F.2.1 dX8_worksOut_139 rfl (lv_at hl 2 rfl) ?_
            refine r_getN F I hr_x0 hk_x0 fX8_45 (f := 9) rfl (by decide) dX8_worksOut_140 h (fun b16 hr_b16 hk_b16 h => ?_)
            refine lv_iload_n F.1 F.2.1 dX8_worksOut_143 rfl (lv_at hl 0 rfl) ?_
            refine r_ald F I hr_b16 hk_b16 dX8_worksOut_144 h (fun z17 h => ?_)
            refine g_I I (run_S (As := [.int z9, .int z15, .int z17]) (rest := [.int z12, .ref (gz g + b11)]) F I kX8_255 (ctX8_two h) ⟨rfl, rfl⟩ ⟨Nat.le_of_ble_eq_true rfl, Nat.le_of_ble_eq_true rfl⟩ rfl hl.1 rfl (Nat.le_of_ble_eq_true rfl) ⟨Nat.le_of_ble_eq_true rfl, Nat.le_of_ble_eq_true rfl⟩ dX8_worksOut_145) (fun z18 S H locs I h => ?_)
            refine r_ast F I hr_b11 hk_b11 dX8_worksOut_148 h (fun S H locs I h => ?_)
            exact hj_149 S _ _ _ x0 x1 z10 x3 x4 hr_x0 hk_x0 h I (lv_sub hl [2, 3, 0, 4, 5] rfl)
          · refine lv_aload_n F.1 F.2.1 dX8_worksOut_92 rfl (lv_at hl 1 rfl) ?_
            refine r_getN F I hr_x0 hk_x0 fX8_45 (f := 9) rfl (by decide) dX8_worksOut_93 h (fun b19 hr_b19 hk_b19 h => ?_)
            refine lv_iload_n F.1 F.2.1 dX8_worksOut_96 rfl (lv_at hl 3 rfl) ?_
            refine lv_iconst (v := 1) F.1 F.2.1 dX8_worksOut_97 (by decide) ?_
            refine r_isub F dX8_worksOut_98 h (fun z20 h => ?_)
            refine lv_aload_n F.1 F.2.1 dX8_worksOut_99 rfl (lv_at hl 1 rfl) ?_
            refine r_getN F I hr_x0 hk_x0 fX8_45 (f := 9) rfl (by decide) dX8_worksOut_100 h (fun b21 hr_b21 hk_b21 h => ?_)
            refine lv_iload_n F.1 F.2.1 dX8_worksOut_103 rfl (lv_at hl 3 rfl) ?_
            refine lv_iconst (v := 1) F.1 F.2.1 dX8_worksOut_104 (by decide) ?_
            refine r_isub F dX8_worksOut_105 h (fun z22 h => ?_)
            refine r_ald F I hr_b21 hk_b21 dX8_worksOut_106 h (fun z23 h => ?_)
            refine r_if_ne (tgt := 114) F dX8_worksOut_107 (by decide) h (fun h => ?_) (fun h => ?_)
            · refine lv_iconst (v := 0) F.1 F.2.1 dX8_worksOut_114 (by decide) ?_
              exact hj_115 S _ _ _ x0 x1 x2 x3 x4 b19 z20 (0 : Int32) hr_x0 hk_x0 hr_b19 hk_b19 h I (lv_sub hl [1, 2, 3, 4, 5] rfl)
            · refine lv_iconst (v := 1) F.1 F.2.1 dX8_worksOut_110 (by decide) ?_
              refine lv_goto (tgt := 115) F.1 F.2.1 dX8_worksOut_111 (by decide) ?_
              exact hj_115 S _ _ _ x0 x1 x2 x3 x4 b19 z20 (1 : Int32) hr_x0 hk_x0 hr_b19 hk_b19 h I (lv_sub hl [1, 2, 3, 4, 5] rfl)
        · refine lv_aload_n F.1 F.2.1 dX8_worksOut_49 rfl (lv_at hl 1 rfl) ?_
          refine r_getN F I hr_x0 hk_x0 fX8_45 (f := 9) rfl (by decide) dX8_worksOut_50 h (fun b24 hr_b24 hk_b24 h => ?_)
          refine lv_iload_n F.1 F.2.1 dX8_worksOut_53 rfl (lv_at hl 3 rfl) ?_
          refine lv_iload F.1 F.2.1 dX8_worksOut_54 (lv_at hl 0 rfl) ?_
          refine lv_sipush (v := 10000) F.1 F.2.1 dX8_worksOut_56 (by decide) ?_
          refine r_icmp_ge (tgt := 67) F dX8_worksOut_59 (by decide) h (fun h => ?_) (fun h => ?_)
          · refine lv_aload_n F.1 F.2.1 dX8_worksOut_67 rfl (lv_at hl 1 rfl) ?_
            refine r_getN F I hr_x0 hk_x0 fX8_48 (f := 9) rfl (by decide) dX8_worksOut_68 h (fun b25 hr_b25 hk_b25 h => ?_)
            refine lv_iload F.1 F.2.1 dX8_worksOut_71 (lv_at hl 0 rfl) ?_
            refine lv_sipush (v := 10000) F.1 F.2.1 dX8_worksOut_73 (by decide) ?_
            refine r_isub F dX8_worksOut_76 h (fun z26 h => ?_)
            refine r_ald F I hr_b25 hk_b25 dX8_worksOut_77 h (fun z27 h => ?_)
            exact hj_78 S _ _ _ x0 x1 x2 x3 x4 b24 x2 z27 hr_x0 hk_x0 hr_b24 hk_b24 h I (lv_sub hl [1, 2, 3, 4, 5] rfl)
          · refine lv_iload F.1 F.2.1 dX8_worksOut_62 (lv_at hl 0 rfl) ?_
            refine lv_goto (tgt := 78) F.1 F.2.1 dX8_worksOut_64 (by decide) ?_
            exact hj_78 S _ _ _ x0 x1 x2 x3 x4 b24 x2 z9 hr_x0 hk_x0 hr_b24 hk_b24 h I (lv_sub hl [1, 2, 3, 4, 5] rfl)
  refine lv_iconst (v := 0) F.1 F.2.1 dX8_worksOut_0 (by decide) ?_
  refine lv_istore_n (lv' := [(2, .int (0 : Int32)), (0, .ref (gz g + a0)), (1, .int a1)]) F.1 F.2.1 dX8_worksOut_1 rfl hl (by decide) rfl (fun ls hl => ?_)
  refine lv_aload_n F.1 F.2.1 dX8_worksOut_2 rfl (lv_at hl 1 rfl) ?_
  refine r_getN F I hr_a0 hk_a0 fX8_9 (f := 9) rfl (by decide) dX8_worksOut_3 h (fun b28 hr_b28 hk_b28 h => ?_)
  refine lv_bipush (v := 89) F.1 F.2.1 dX8_worksOut_6 (by decide) ?_
  refine lv_iconst (v := 2) F.1 F.2.1 dX8_worksOut_8 (by decide) ?_
  refine lv_iload_n F.1 F.2.1 dX8_worksOut_9 rfl (lv_at hl 2 rfl) ?_
  refine r_imul F dX8_worksOut_10 h (fun z29 h => ?_)
  refine r_iadd F dX8_worksOut_11 h (fun z30 h => ?_)
  refine r_ald F I hr_b28 hk_b28 dX8_worksOut_12 h (fun z31 h => ?_)
  refine lv_sipush (v := 1000) F.1 F.2.1 dX8_worksOut_13 (by decide) ?_
  refine r_irem F dX8_worksOut_16 h (fun z32 h => ?_)
  refine lv_istore_n (lv' := [(3, .int z32), (2, .int (0 : Int32)), (0, .ref (gz g + a0)), (1, .int a1)]) F.1 F.2.1 dX8_worksOut_17 rfl hl (by decide) rfl (fun ls hl => ?_)
  refine lv_iconst (v := 0) F.1 F.2.1 dX8_worksOut_18 (by decide) ?_
  refine lv_istore (lv' := [(4, .int (0 : Int32)), (3, .int z32), (2, .int (0 : Int32)), (0, .ref (gz g + a0)), (1, .int a1)]) F.1 F.2.1 dX8_worksOut_19 hl (by decide) rfl (fun ls hl => ?_)
  obtain ⟨n21, h⟩ := h
  exact hl_21 n21 S _ _ _ a0 a1 (0 : Int32) z32 (0 : Int32) hr_a0 hk_a0 h I (lv_sub hl [3, 4, 2, 1, 0] rfl)
theorem bdX8_joined_0 : ∀ q ∈ ([(0, .aload_n 0, 1), (1, .iconst 0, 1), (2, .invokevirtual 111, 3), (5, .istore 4, 2), (7, .aload_n 0, 1), (8, .getfield 48, 3), (11, .iconst 0, 1), (12, .iload_n 1, 1), (13, .iastore, 1), (14, .aload_n 0, 1), (15, .getfield 48, 3), (18, .iconst 1, 1), (19, .iload_n 2, 1), (20, .iastore, 1), (21, .aload_n 0, 1), (22, .getfield 48, 3), (25, .iconst 2, 1), (26, .iload_n 3, 1), (27, .iastore, 1), (28, .iload 4, 2), (30, .ifCond .ge 11, 3), (33, .iload_n 1, 1), (34, .iload_n 2, 1), (35, .iadd, 1), (36, .iconst 2, 1), (38, .goto 15, 3), (41, .aload_n 0, 1), (42, .iload 4, 2), (44, .invokevirtual 114, 3), (47, .iconst 0, 1), (48, .bipush 64, 2), (50, .invokestatic 117, 3), (53, .ireturn, 1)] : List (Nat × Jvm.ClassFile.Instr × Nat)), decode cX8_joined q.1 = .ok q.2 := chk_ok _ 0 _ rfl (by decide +kernel)
theorem dX8_joined_0 : decode cX8_joined 0 = .ok (.aload_n 0, 1) := bdX8_joined_0 (0, .aload_n 0, 1) (List.mem_of_getElem? (i := 0) rfl)
theorem dX8_joined_1 : decode cX8_joined 1 = .ok (.iconst 0, 1) := bdX8_joined_0 (1, .iconst 0, 1) (List.mem_of_getElem? (i := 1) rfl)
theorem dX8_joined_2 : decode cX8_joined 2 = .ok (.invokevirtual 111, 3) := bdX8_joined_0 (2, .invokevirtual 111, 3) (List.mem_of_getElem? (i := 2) rfl)
theorem dX8_joined_5 : decode cX8_joined 5 = .ok (.istore 4, 2) := bdX8_joined_0 (5, .istore 4, 2) (List.mem_of_getElem? (i := 3) rfl)
theorem dX8_joined_7 : decode cX8_joined 7 = .ok (.aload_n 0, 1) := bdX8_joined_0 (7, .aload_n 0, 1) (List.mem_of_getElem? (i := 4) rfl)
theorem dX8_joined_8 : decode cX8_joined 8 = .ok (.getfield 48, 3) := bdX8_joined_0 (8, .getfield 48, 3) (List.mem_of_getElem? (i := 5) rfl)
theorem dX8_joined_11 : decode cX8_joined 11 = .ok (.iconst 0, 1) := bdX8_joined_0 (11, .iconst 0, 1) (List.mem_of_getElem? (i := 6) rfl)
theorem dX8_joined_12 : decode cX8_joined 12 = .ok (.iload_n 1, 1) := bdX8_joined_0 (12, .iload_n 1, 1) (List.mem_of_getElem? (i := 7) rfl)
theorem dX8_joined_13 : decode cX8_joined 13 = .ok (.iastore, 1) := bdX8_joined_0 (13, .iastore, 1) (List.mem_of_getElem? (i := 8) rfl)
theorem dX8_joined_14 : decode cX8_joined 14 = .ok (.aload_n 0, 1) := bdX8_joined_0 (14, .aload_n 0, 1) (List.mem_of_getElem? (i := 9) rfl)
theorem dX8_joined_15 : decode cX8_joined 15 = .ok (.getfield 48, 3) := bdX8_joined_0 (15, .getfield 48, 3) (List.mem_of_getElem? (i := 10) rfl)
theorem dX8_joined_18 : decode cX8_joined 18 = .ok (.iconst 1, 1) := bdX8_joined_0 (18, .iconst 1, 1) (List.mem_of_getElem? (i := 11) rfl)
theorem dX8_joined_19 : decode cX8_joined 19 = .ok (.iload_n 2, 1) := bdX8_joined_0 (19, .iload_n 2, 1) (List.mem_of_getElem? (i := 12) rfl)
theorem dX8_joined_20 : decode cX8_joined 20 = .ok (.iastore, 1) := bdX8_joined_0 (20, .iastore, 1) (List.mem_of_getElem? (i := 13) rfl)
theorem dX8_joined_21 : decode cX8_joined 21 = .ok (.aload_n 0, 1) := bdX8_joined_0 (21, .aload_n 0, 1) (List.mem_of_getElem? (i := 14) rfl)
theorem dX8_joined_22 : decode cX8_joined 22 = .ok (.getfield 48, 3) := bdX8_joined_0 (22, .getfield 48, 3) (List.mem_of_getElem? (i := 15) rfl)
theorem dX8_joined_25 : decode cX8_joined 25 = .ok (.iconst 2, 1) := bdX8_joined_0 (25, .iconst 2, 1) (List.mem_of_getElem? (i := 16) rfl)
theorem dX8_joined_26 : decode cX8_joined 26 = .ok (.iload_n 3, 1) := bdX8_joined_0 (26, .iload_n 3, 1) (List.mem_of_getElem? (i := 17) rfl)
theorem dX8_joined_27 : decode cX8_joined 27 = .ok (.iastore, 1) := bdX8_joined_0 (27, .iastore, 1) (List.mem_of_getElem? (i := 18) rfl)
theorem dX8_joined_28 : decode cX8_joined 28 = .ok (.iload 4, 2) := bdX8_joined_0 (28, .iload 4, 2) (List.mem_of_getElem? (i := 19) rfl)
theorem dX8_joined_30 : decode cX8_joined 30 = .ok (.ifCond .ge 11, 3) := bdX8_joined_0 (30, .ifCond .ge 11, 3) (List.mem_of_getElem? (i := 20) rfl)
theorem dX8_joined_33 : decode cX8_joined 33 = .ok (.iload_n 1, 1) := bdX8_joined_0 (33, .iload_n 1, 1) (List.mem_of_getElem? (i := 21) rfl)
theorem dX8_joined_34 : decode cX8_joined 34 = .ok (.iload_n 2, 1) := bdX8_joined_0 (34, .iload_n 2, 1) (List.mem_of_getElem? (i := 22) rfl)
theorem dX8_joined_35 : decode cX8_joined 35 = .ok (.iadd, 1) := bdX8_joined_0 (35, .iadd, 1) (List.mem_of_getElem? (i := 23) rfl)
theorem dX8_joined_36 : decode cX8_joined 36 = .ok (.iconst 2, 1) := bdX8_joined_0 (36, .iconst 2, 1) (List.mem_of_getElem? (i := 24) rfl)
theorem dX8_joined_38 : decode cX8_joined 38 = .ok (.goto 15, 3) := bdX8_joined_0 (38, .goto 15, 3) (List.mem_of_getElem? (i := 25) rfl)
theorem dX8_joined_41 : decode cX8_joined 41 = .ok (.aload_n 0, 1) := bdX8_joined_0 (41, .aload_n 0, 1) (List.mem_of_getElem? (i := 26) rfl)
theorem dX8_joined_42 : decode cX8_joined 42 = .ok (.iload 4, 2) := bdX8_joined_0 (42, .iload 4, 2) (List.mem_of_getElem? (i := 27) rfl)
theorem dX8_joined_44 : decode cX8_joined 44 = .ok (.invokevirtual 114, 3) := bdX8_joined_0 (44, .invokevirtual 114, 3) (List.mem_of_getElem? (i := 28) rfl)
theorem dX8_joined_47 : decode cX8_joined 47 = .ok (.iconst 0, 1) := bdX8_joined_0 (47, .iconst 0, 1) (List.mem_of_getElem? (i := 29) rfl)
theorem dX8_joined_48 : decode cX8_joined 48 = .ok (.bipush 64, 2) := bdX8_joined_0 (48, .bipush 64, 2) (List.mem_of_getElem? (i := 30) rfl)
theorem dX8_joined_50 : decode cX8_joined 50 = .ok (.invokestatic 117, 3) := bdX8_joined_0 (50, .invokestatic 117, 3) (List.mem_of_getElem? (i := 31) rfl)
theorem dX8_joined_53 : decode cX8_joined 53 = .ok (.ireturn, 1) := bdX8_joined_0 (53, .ireturn, 1) (List.mem_of_getElem? (i := 32) rfl)
theorem dX8_joined_37 : decode cX8_joined 37 = .ok (.idiv, 1) := by decide +kernel
theorem kX8_111 : mthV RX8 111 8 yX8_counts prog_10_method_69_code 3 (Option.some Jvm.ClassFile.FieldType.int) 1 := ⟨⟨⟨tw_1102, tw_67, tw_1105⟩, rfl, by decide +kernel⟩, tw_1104, tw_32, rfl⟩
theorem kX8_114 : mthV RX8 114 8 yX8_worksOut prog_10_method_72_code 6 (Option.some Jvm.ClassFile.FieldType.int) 1 := ⟨⟨⟨tw_1106, tw_67, tw_1109⟩, rfl, by decide +kernel⟩, tw_1108, tw_33, rfl⟩
theorem kX8_117 : mthS RX8 117 yX8_within prog_10_method_3_code 3 (Option.some Jvm.ClassFile.FieldType.int) 3 := ⟨⟨⟨tw_1113, tw_67, tw_1115⟩, rfl, by decide +kernel⟩, tw_1114⟩
def wpX8_joined (ln : Nat → Nat) (S : HC) (a0 : Nat) (a1 : Int32) (a2 : Int32) (a3 : Int32) (post : Int32 → HC → Prop) : Prop := wpX8_counts ln S a0 (0 : Int32) fun z1 S => dn_ (hR S a0 23) fun b2 => as_ (ln b2) (0 : Int32) (fun j => sI S b2 j a1) fun S => dn_ (hR S a0 23) fun b3 => as_ (ln b3) (1 : Int32) (fun j => sI S b3 j a2) fun S => dn_ (hR S a0 23) fun b4 => as_ (ln b4) (2 : Int32) (fun j => sI S b4 j a3) fun S => if 0 ≤ z1 then (wpX8_worksOut ln S a0 z1 fun z5 S => wpX8_within ln S z5 (0 : Int32) (64 : Int32) fun z6 S => post z6 S) else (lt_ (a1 + a2) fun z7 => ne_ (2 : Int32) <| lt_ (z7 / (2 : Int32)) fun z8 => post z8 S)
abbrev rmX8_joined : Room := { frames := 2, cells := 0, slots := 0, locals := 47 }
set_option maxHeartbeats 4000000 in
set_option maxRecDepth 100000 in
theorem ctX8_joined {l : Launch} {g : GX} {N : Nat} {ln : Nat → Nat} {S : HC} {a0 : Nat} {a1 : Int32} {a2 : Int32} {a3 : Int32} {post : Int32 → HC → Prop} (hr_a0 : a0 < N) (hk_a0 : kd a0 = 8) (h : wpX8_joined ln S a0 a1 a2 a3 post) : Met l yX8_joined (Cond.code yX8_joined prog_10_method_16_code 5 (Option.some Jvm.ClassFile.FieldType.int) :: gtbl) rmX8_joined (va_Pc [.ref (gz g + a0), .int a1, .int a2, .int a3] (AtP g N ln S)) (QI g N ln post) 0 0 (gF g) := by
  refine m_of (by decide) (Nat.le_of_ble_eq_true rfl) ?_
  intro p e s m below meth c ls F hr I hl
  have hl : lv_has ls 5 [(0, .ref (gz g + a0)), (1, .int a1), (2, .int a2), (3, .int a3)] := hl
  unfold wpX8_joined at h
  refine lv_aload_n F.1 F.2.1 dX8_joined_0 rfl (lv_at hl 0 rfl) ?_
  refine lv_iconst (v := 0) F.1 F.2.1 dX8_joined_1 (by decide) ?_
  refine g_I I (run_V (As := [.int (0 : Int32)]) (rest := []) F I hr_a0 hk_a0 (by decide) kX8_111 (ctX8_counts hr_a0 hk_a0 h) ⟨rfl, rfl⟩ ⟨Nat.le_of_ble_eq_true rfl, Nat.le_of_ble_eq_true rfl⟩ rfl hl.1 rfl (Nat.le_of_ble_eq_true rfl) ⟨Nat.le_of_ble_eq_true rfl, Nat.le_of_ble_eq_true rfl⟩ dX8_joined_2) (fun z1 S H locs I h => ?_)
  refine lv_istore (lv' := [(4, .int z1), (0, .ref (gz g + a0)), (1, .int a1), (2, .int a2), (3, .int a3)]) F.1 F.2.1 dX8_joined_5 hl (by decide) rfl (fun ls hl => ?_)
  refine lv_aload_n F.1 F.2.1 dX8_joined_7 rfl (lv_at hl 1 rfl) ?_
  refine r_getN F I hr_a0 hk_a0 fX8_48 (f := 9) rfl (by decide) dX8_joined_8 h (fun b2 hr_b2 hk_b2 h => ?_)
  refine lv_iconst (v := 0) F.1 F.2.1 dX8_joined_11 (by decide) ?_
  refine lv_iload_n F.1 F.2.1 dX8_joined_12 rfl (lv_at hl 2 rfl) ?_
  refine r_ast F I hr_b2 hk_b2 dX8_joined_13 h (fun S H locs I h => ?_)
  refine lv_aload_n F.1 F.2.1 dX8_joined_14 rfl (lv_at hl 1 rfl) ?_
  refine r_getN F I hr_a0 hk_a0 fX8_48 (f := 9) rfl (by decide) dX8_joined_15 h (fun b3 hr_b3 hk_b3 h => ?_)
  refine lv_iconst (v := 1) F.1 F.2.1 dX8_joined_18 (by decide) ?_
  refine lv_iload_n F.1 F.2.1 dX8_joined_19 rfl (lv_at hl 3 rfl) ?_
  refine r_ast F I hr_b3 hk_b3 dX8_joined_20 h (fun S H locs I h => ?_)
  refine lv_aload_n F.1 F.2.1 dX8_joined_21 rfl (lv_at hl 1 rfl) ?_
  refine r_getN F I hr_a0 hk_a0 fX8_48 (f := 9) rfl (by decide) dX8_joined_22 h (fun b4 hr_b4 hk_b4 h => ?_)
  refine lv_iconst (v := 2) F.1 F.2.1 dX8_joined_25 (by decide) ?_
  refine lv_iload_n F.1 F.2.1 dX8_joined_26 rfl (lv_at hl 4 rfl) ?_
  refine r_ast F I hr_b4 hk_b4 dX8_joined_27 h (fun S H locs I h => ?_)
  refine lv_iload F.1 F.2.1 dX8_joined_28 (lv_at hl 0 rfl) ?_
  refine r_if_ge (tgt := 41) F dX8_joined_30 (by decide) h (fun h => ?_) (fun h => ?_)
  · refine lv_aload_n F.1 F.2.1 dX8_joined_41 rfl (lv_at hl 1 rfl) ?_
    refine lv_iload F.1 F.2.1 dX8_joined_42 (lv_at hl 0 rfl) ?_
    refine g_I I (run_V (As := [.int z1]) (rest := []) F I hr_a0 hk_a0 (by decide) kX8_114 (ctX8_worksOut hr_a0 hk_a0 h) ⟨rfl, rfl⟩ ⟨Nat.le_of_ble_eq_true rfl, Nat.le_of_ble_eq_true rfl⟩ rfl hl.1 rfl (Nat.le_of_ble_eq_true rfl) ⟨Nat.le_of_ble_eq_true rfl, Nat.le_of_ble_eq_true rfl⟩ dX8_joined_44) (fun z5 S H locs I h => ?_)
    refine lv_iconst (v := 0) F.1 F.2.1 dX8_joined_47 (by decide) ?_
    refine lv_bipush (v := 64) F.1 F.2.1 dX8_joined_48 (by decide) ?_
    refine g_I I (run_S (As := [.int z5, .int (0 : Int32), .int (64 : Int32)]) (rest := []) F I kX8_117 (ctX8_within h) ⟨rfl, rfl⟩ ⟨Nat.le_of_ble_eq_true rfl, Nat.le_of_ble_eq_true rfl⟩ rfl hl.1 rfl (Nat.le_of_ble_eq_true rfl) ⟨Nat.le_of_ble_eq_true rfl, Nat.le_of_ble_eq_true rfl⟩ dX8_joined_50) (fun z6 S H locs I h => ?_)
    exact r_ireturn F I ⟨hr.1, hr.2.1, trivial⟩ h dX8_joined_53
  · refine lv_iload_n F.1 F.2.1 dX8_joined_33 rfl (lv_at hl 2 rfl) ?_
    refine lv_iload_n F.1 F.2.1 dX8_joined_34 rfl (lv_at hl 3 rfl) ?_
    refine r_iadd F dX8_joined_35 h (fun z7 h => ?_)
    refine lv_iconst (v := 2) F.1 F.2.1 dX8_joined_36 (by decide) ?_
    refine r_idiv F dX8_joined_37 h (fun z8 h => ?_)
    refine lv_goto (tgt := 53) F.1 F.2.1 dX8_joined_38 (by decide) ?_
    exact r_ireturn F I ⟨hr.1, hr.2.1, trivial⟩ h dX8_joined_53
theorem bdX8_childOf_0 : ∀ q ∈ ([(0, .aload_n 0, 1), (1, .getfield 19, 3), (4, .bipush 8, 2), (6, .iload_n 1, 1), (7, .imul, 1), (8, .iload_n 3, 1), (9, .iadd, 1), (10, .iaload, 1), (11, .istore 4, 2), (13, .aload_n 0, 1), (14, .iload 4, 2), (16, .iload_n 2, 1), (17, .ifCond .lt 25, 3), (20, .aload_n 0, 1), (21, .iload_n 2, 1), (22, .invokevirtual 108, 3), (25, .ifCond .eq 17, 3), (28, .aload_n 0, 1), (29, .getfield 19, 3), (32, .bipush 8, 2), (34, .iload_n 2, 1), (35, .imul, 1), (36, .iload_n 3, 1), (37, .iadd, 1), (38, .iaload, 1), (39, .goto 5, 3), (42, .iload 4, 2), (44, .iload_n 3, 1), (45, .invokevirtual 121, 3), (48, .ireturn, 1)] : List (Nat × Jvm.ClassFile.Instr × Nat)), decode cX8_childOf q.1 = .ok q.2 := chk_ok _ 0 _ rfl (by decide +kernel)
theorem dX8_childOf_0 : decode cX8_childOf 0 = .ok (.aload_n 0, 1) := bdX8_childOf_0 (0, .aload_n 0, 1) (List.mem_of_getElem? (i := 0) rfl)
theorem dX8_childOf_1 : decode cX8_childOf 1 = .ok (.getfield 19, 3) := bdX8_childOf_0 (1, .getfield 19, 3) (List.mem_of_getElem? (i := 1) rfl)
theorem dX8_childOf_4 : decode cX8_childOf 4 = .ok (.bipush 8, 2) := bdX8_childOf_0 (4, .bipush 8, 2) (List.mem_of_getElem? (i := 2) rfl)
theorem dX8_childOf_6 : decode cX8_childOf 6 = .ok (.iload_n 1, 1) := bdX8_childOf_0 (6, .iload_n 1, 1) (List.mem_of_getElem? (i := 3) rfl)
theorem dX8_childOf_7 : decode cX8_childOf 7 = .ok (.imul, 1) := bdX8_childOf_0 (7, .imul, 1) (List.mem_of_getElem? (i := 4) rfl)
theorem dX8_childOf_8 : decode cX8_childOf 8 = .ok (.iload_n 3, 1) := bdX8_childOf_0 (8, .iload_n 3, 1) (List.mem_of_getElem? (i := 5) rfl)
theorem dX8_childOf_9 : decode cX8_childOf 9 = .ok (.iadd, 1) := bdX8_childOf_0 (9, .iadd, 1) (List.mem_of_getElem? (i := 6) rfl)
theorem dX8_childOf_10 : decode cX8_childOf 10 = .ok (.iaload, 1) := bdX8_childOf_0 (10, .iaload, 1) (List.mem_of_getElem? (i := 7) rfl)
theorem dX8_childOf_11 : decode cX8_childOf 11 = .ok (.istore 4, 2) := bdX8_childOf_0 (11, .istore 4, 2) (List.mem_of_getElem? (i := 8) rfl)
theorem dX8_childOf_13 : decode cX8_childOf 13 = .ok (.aload_n 0, 1) := bdX8_childOf_0 (13, .aload_n 0, 1) (List.mem_of_getElem? (i := 9) rfl)
theorem dX8_childOf_14 : decode cX8_childOf 14 = .ok (.iload 4, 2) := bdX8_childOf_0 (14, .iload 4, 2) (List.mem_of_getElem? (i := 10) rfl)
theorem dX8_childOf_16 : decode cX8_childOf 16 = .ok (.iload_n 2, 1) := bdX8_childOf_0 (16, .iload_n 2, 1) (List.mem_of_getElem? (i := 11) rfl)
theorem dX8_childOf_17 : decode cX8_childOf 17 = .ok (.ifCond .lt 25, 3) := bdX8_childOf_0 (17, .ifCond .lt 25, 3) (List.mem_of_getElem? (i := 12) rfl)
theorem dX8_childOf_20 : decode cX8_childOf 20 = .ok (.aload_n 0, 1) := bdX8_childOf_0 (20, .aload_n 0, 1) (List.mem_of_getElem? (i := 13) rfl)
theorem dX8_childOf_21 : decode cX8_childOf 21 = .ok (.iload_n 2, 1) := bdX8_childOf_0 (21, .iload_n 2, 1) (List.mem_of_getElem? (i := 14) rfl)
theorem dX8_childOf_22 : decode cX8_childOf 22 = .ok (.invokevirtual 108, 3) := bdX8_childOf_0 (22, .invokevirtual 108, 3) (List.mem_of_getElem? (i := 15) rfl)
theorem dX8_childOf_25 : decode cX8_childOf 25 = .ok (.ifCond .eq 17, 3) := bdX8_childOf_0 (25, .ifCond .eq 17, 3) (List.mem_of_getElem? (i := 16) rfl)
theorem dX8_childOf_28 : decode cX8_childOf 28 = .ok (.aload_n 0, 1) := bdX8_childOf_0 (28, .aload_n 0, 1) (List.mem_of_getElem? (i := 17) rfl)
theorem dX8_childOf_29 : decode cX8_childOf 29 = .ok (.getfield 19, 3) := bdX8_childOf_0 (29, .getfield 19, 3) (List.mem_of_getElem? (i := 18) rfl)
theorem dX8_childOf_32 : decode cX8_childOf 32 = .ok (.bipush 8, 2) := bdX8_childOf_0 (32, .bipush 8, 2) (List.mem_of_getElem? (i := 19) rfl)
theorem dX8_childOf_34 : decode cX8_childOf 34 = .ok (.iload_n 2, 1) := bdX8_childOf_0 (34, .iload_n 2, 1) (List.mem_of_getElem? (i := 20) rfl)
theorem dX8_childOf_35 : decode cX8_childOf 35 = .ok (.imul, 1) := bdX8_childOf_0 (35, .imul, 1) (List.mem_of_getElem? (i := 21) rfl)
theorem dX8_childOf_36 : decode cX8_childOf 36 = .ok (.iload_n 3, 1) := bdX8_childOf_0 (36, .iload_n 3, 1) (List.mem_of_getElem? (i := 22) rfl)
theorem dX8_childOf_37 : decode cX8_childOf 37 = .ok (.iadd, 1) := bdX8_childOf_0 (37, .iadd, 1) (List.mem_of_getElem? (i := 23) rfl)
theorem dX8_childOf_38 : decode cX8_childOf 38 = .ok (.iaload, 1) := bdX8_childOf_0 (38, .iaload, 1) (List.mem_of_getElem? (i := 24) rfl)
theorem dX8_childOf_39 : decode cX8_childOf 39 = .ok (.goto 5, 3) := bdX8_childOf_0 (39, .goto 5, 3) (List.mem_of_getElem? (i := 25) rfl)
theorem dX8_childOf_42 : decode cX8_childOf 42 = .ok (.iload 4, 2) := bdX8_childOf_0 (42, .iload 4, 2) (List.mem_of_getElem? (i := 26) rfl)
theorem dX8_childOf_44 : decode cX8_childOf 44 = .ok (.iload_n 3, 1) := bdX8_childOf_0 (44, .iload_n 3, 1) (List.mem_of_getElem? (i := 27) rfl)
theorem dX8_childOf_45 : decode cX8_childOf 45 = .ok (.invokevirtual 121, 3) := bdX8_childOf_0 (45, .invokevirtual 121, 3) (List.mem_of_getElem? (i := 28) rfl)
theorem dX8_childOf_48 : decode cX8_childOf 48 = .ok (.ireturn, 1) := bdX8_childOf_0 (48, .ireturn, 1) (List.mem_of_getElem? (i := 29) rfl)
theorem kX8_121 : mthV RX8 121 8 yX8_joined prog_10_method_16_code 5 (Option.some Jvm.ClassFile.FieldType.int) 3 := ⟨⟨⟨tw_1098, tw_67, tw_1101⟩, rfl, by decide +kernel⟩, tw_1100, tw_31, rfl⟩
theorem fX8_19 : fldOK RX8 19 8 4 (.array .int) true := ⟨_, _, _, tyX8, ⟨rfl, iX8, by decide, rfl, by decide⟩, tw_941, ⟨tyX8_ok, nmX8⟩, by decide +kernel, rfl, rfl⟩
def BX8_childOf_44 (ln : Nat → Nat) (post : Int32 → HC → Prop) (S : HC) (x3 : Int32) (t0 : Nat) (t1 : Int32) (t2 : Int32) : Prop := wpX8_joined ln S t0 t1 t2 x3 fun z1 S => post z1 S
def BX8_childOf_42 (ln : Nat → Nat) (post : Int32 → HC → Prop) (S : HC) (x3 : Int32) (x4 : Int32) (t0 : Nat) (t1 : Int32) : Prop := BX8_childOf_44 ln post S x3 t0 t1 x4
def wpX8_childOf (ln : Nat → Nat) (S : HC) (a0 : Nat) (a1 : Int32) (a2 : Int32) (a3 : Int32) (post : Int32 → HC → Prop) : Prop := dn_ (hR S a0 4) fun b2 => lt_ ((8 : Int32) * a1) fun z3 => lt_ (z3 + a3) fun z4 => al_ (ln b2) z4 (hI S b2) fun z5 => if a2 < 0 then (BX8_childOf_42 ln post S a3 z5 a0 z5) else (wpX8_isHeiress ln S a0 a2 fun z6 S => if z6 = 0 then (BX8_childOf_42 ln post S a3 z5 a0 z5) else (dn_ (hR S a0 4) fun b7 => lt_ ((8 : Int32) * a2) fun z8 => lt_ (z8 + a3) fun z9 => al_ (ln b7) z9 (hI S b7) fun z10 => BX8_childOf_44 ln post S a3 a0 z5 z10))
abbrev rmX8_childOf : Room := { frames := 3, cells := 0, slots := 0, locals := 71 }
set_option maxHeartbeats 4000000 in
set_option maxRecDepth 100000 in
theorem ctX8_childOf {l : Launch} {g : GX} {N : Nat} {ln : Nat → Nat} {S : HC} {a0 : Nat} {a1 : Int32} {a2 : Int32} {a3 : Int32} {post : Int32 → HC → Prop} (hr_a0 : a0 < N) (hk_a0 : kd a0 = 8) (h : wpX8_childOf ln S a0 a1 a2 a3 post) : Met l yX8_childOf (Cond.code yX8_childOf prog_10_method_17_code 5 (Option.some Jvm.ClassFile.FieldType.int) :: gtbl) rmX8_childOf (va_Pc [.ref (gz g + a0), .int a1, .int a2, .int a3] (AtP g N ln S)) (QI g N ln post) 0 0 (gF g) := by
  refine m_of (by decide) (Nat.le_of_ble_eq_true rfl) ?_
  intro p e s m below meth c ls F hr I hl
  have hl : lv_has ls 5 [(0, .ref (gz g + a0)), (1, .int a1), (2, .int a2), (3, .int a3)] := hl
  unfold wpX8_childOf at h
  have hj_44 : ∀ (S : HC) (H : Heap) (locs : List Loc) (ls : Array Slot) (x3 : Int32) (t0 : Nat) (t1 : Int32) (t2 : Int32), t0 < N → kd t0 = 8 → BX8_childOf_44 ln post S x3 t0 t1 t2 → Inv g N ln S s H locs → lv_has ls 5 [(3, .int x3)] → W p l e rmX8_childOf s m ([.ref (gz g + a0), .int a1, .int a2, .int a3] : List Value).toArray below meth c H locs 0 0 (MQ below (QI g N ln post) ([.ref (gz g + a0), .int a1, .int a2, .int a3] : List Value).toArray s 0 0 (gF g)) (F0 m 44 ls [.int t2, .int t1, .ref (gz g + t0)]) := by
    intro S H locs ls x3 t0 t1 t2 hr_t0 hk_t0 h I hl
    unfold BX8_childOf_44 at h
    refine lv_iload_n F.1 F.2.1 dX8_childOf_44 rfl (lv_at hl 0 rfl) ?_
    refine g_I I (run_V (As := [.int t1, .int t2, .int x3]) (rest := []) F I hr_t0 hk_t0 (by decide) kX8_121 (ctX8_joined hr_t0 hk_t0 h) ⟨rfl, rfl⟩ ⟨Nat.le_of_ble_eq_true rfl, Nat.le_of_ble_eq_true rfl⟩ rfl hl.1 rfl (Nat.le_of_ble_eq_true rfl) ⟨Nat.le_of_ble_eq_true rfl, Nat.le_of_ble_eq_true rfl⟩ dX8_childOf_45) (fun z1 S H locs I h => ?_)
    exact r_ireturn F I ⟨hr.1, hr.2.1, trivial⟩ h dX8_childOf_48
  have hj_42 : ∀ (S : HC) (H : Heap) (locs : List Loc) (ls : Array Slot) (x3 : Int32) (x4 : Int32) (t0 : Nat) (t1 : Int32), t0 < N → kd t0 = 8 → BX8_childOf_42 ln post S x3 x4 t0 t1 → Inv g N ln S s H locs → lv_has ls 5 [(3, .int x3), (4, .int x4)] → W p l e rmX8_childOf s m ([.ref (gz g + a0), .int a1, .int a2, .int a3] : List Value).toArray below meth c H locs 0 0 (MQ below (QI g N ln post) ([.ref (gz g + a0), .int a1, .int a2, .int a3] : List Value).toArray s 0 0 (gF g)) (F0 m 42 ls [.int t1, .ref (gz g + t0)]) := by
    intro S H locs ls x3 x4 t0 t1 hr_t0 hk_t0 h I hl
    unfold BX8_childOf_42 at h
    refine lv_iload F.1 F.2.1 dX8_childOf_42 (lv_at hl 1 rfl) ?_
    exact hj_44 S _ _ _ x3 t0 t1 x4 hr_t0 hk_t0 h I (lv_sub hl [0] rfl)
  refine lv_aload_n F.1 F.2.1 dX8_childOf_0 rfl (lv_at hl 0 rfl) ?_
  refine r_getN F I hr_a0 hk_a0 fX8_19 (f := 9) rfl (by decide) dX8_childOf_1 h (fun b2 hr_b2 hk_b2 h => ?_)
  refine lv_bipush (v := 8) F.1 F.2.1 dX8_childOf_4 (by decide) ?_
  refine lv_iload_n F.1 F.2.1 dX8_childOf_6 rfl (lv_at hl 1 rfl) ?_
  refine r_imul F dX8_childOf_7 h (fun z3 h => ?_)
  refine lv_iload_n F.1 F.2.1 dX8_childOf_8 rfl (lv_at hl 3 rfl) ?_
  refine r_iadd F dX8_childOf_9 h (fun z4 h => ?_)
  refine r_ald F I hr_b2 hk_b2 dX8_childOf_10 h (fun z5 h => ?_)
  refine lv_istore (lv' := [(4, .int z5), (0, .ref (gz g + a0)), (1, .int a1), (2, .int a2), (3, .int a3)]) F.1 F.2.1 dX8_childOf_11 hl (by decide) rfl (fun ls hl => ?_)
  refine lv_aload_n F.1 F.2.1 dX8_childOf_13 rfl (lv_at hl 1 rfl) ?_
  refine lv_iload F.1 F.2.1 dX8_childOf_14 (lv_at hl 0 rfl) ?_
  refine lv_iload_n F.1 F.2.1 dX8_childOf_16 rfl (lv_at hl 3 rfl) ?_
  refine r_if_lt (tgt := 42) F dX8_childOf_17 (by decide) h (fun h => ?_) (fun h => ?_)
  · exact hj_42 S _ _ _ a3 z5 a0 z5 hr_a0 hk_a0 h I (lv_sub hl [4, 0] rfl)
  · refine lv_aload_n F.1 F.2.1 dX8_childOf_20 rfl (lv_at hl 1 rfl) ?_
    refine lv_iload_n F.1 F.2.1 dX8_childOf_21 rfl (lv_at hl 3 rfl) ?_
    refine g_I I (run_V (As := [.int a2]) (rest := [.int z5, .ref (gz g + a0)]) F I hr_a0 hk_a0 (by decide) kX8_108 (ctX8_isHeiress hr_a0 hk_a0 h) ⟨rfl, rfl⟩ ⟨Nat.le_of_ble_eq_true rfl, Nat.le_of_ble_eq_true rfl⟩ rfl hl.1 rfl (Nat.le_of_ble_eq_true rfl) ⟨Nat.le_of_ble_eq_true rfl, Nat.le_of_ble_eq_true rfl⟩ dX8_childOf_22) (fun z6 S H locs I h => ?_)
    refine r_if_eq (tgt := 42) F dX8_childOf_25 (by decide) h (fun h => ?_) (fun h => ?_)
    · exact hj_42 S _ _ _ a3 z5 a0 z5 hr_a0 hk_a0 h I (lv_sub hl [4, 0] rfl)
    · refine lv_aload_n F.1 F.2.1 dX8_childOf_28 rfl (lv_at hl 1 rfl) ?_
      refine r_getN F I hr_a0 hk_a0 fX8_19 (f := 9) rfl (by decide) dX8_childOf_29 h (fun b7 hr_b7 hk_b7 h => ?_)
      refine lv_bipush (v := 8) F.1 F.2.1 dX8_childOf_32 (by decide) ?_
      refine lv_iload_n F.1 F.2.1 dX8_childOf_34 rfl (lv_at hl 3 rfl) ?_
      refine r_imul F dX8_childOf_35 h (fun z8 h => ?_)
      refine lv_iload_n F.1 F.2.1 dX8_childOf_36 rfl (lv_at hl 4 rfl) ?_
      refine r_iadd F dX8_childOf_37 h (fun z9 h => ?_)
      refine r_ald F I hr_b7 hk_b7 dX8_childOf_38 h (fun z10 h => ?_)
      refine lv_goto (tgt := 44) F.1 F.2.1 dX8_childOf_39 (by decide) ?_
      exact hj_44 S _ _ _ a3 a0 z5 z10 hr_a0 hk_a0 h I (lv_sub hl [4] rfl)
theorem bdX8_worksPart_0 : ∀ q ∈ ([(0, .aload_n 0, 1), (1, .iload_n 1, 1), (2, .iconst 4, 1), (3, .invokevirtual 87, 3), (6, .iload_n 2, 1), (7, .if_icmp .ne 7, 3), (10, .iconst 1, 1), (11, .goto 4, 3), (14, .iconst 0, 1), (15, .istore_n 3, 1), (16, .aload_n 0, 1), (17, .iload_n 1, 1), (18, .iconst 1, 1), (19, .invokevirtual 87, 3), (22, .istore 4, 2), (24, .aload_n 0, 1), (25, .iload_n 1, 1), (26, .iconst 2, 1), (27, .invokevirtual 87, 3), (30, .istore 5, 2), (32, .iload 4, 2), (34, .ifCond .ge 16, 3), (37, .iload_n 3, 1), (38, .ifCond .eq 8, 3), (41, .bipush 64, 2), (43, .goto 16, 3), (46, .iconst 0, 1), (47, .goto 12, 3), (50, .aload_n 0, 1), (51, .iload 4, 2), (53, .iload 5, 2), (55, .iload_n 2, 1), (56, .invokevirtual 124, 3), (59, .istore 6, 2), (61, .iload 6, 2), (63, .iconst 2, 1), (64, .if_icmp .ge 7, 3), (67, .iconst 0, 1), (68, .goto 7, 3), (71, .iload 6, 2)] : List (Nat × Jvm.ClassFile.Instr × Nat)), decode cX8_worksPart q.1 = .ok q.2 := chk_ok _ 0 _ rfl (by decide +kernel)
theorem dX8_worksPart_0 : decode cX8_worksPart 0 = .ok (.aload_n 0, 1) := bdX8_worksPart_0 (0, .aload_n 0, 1) (List.mem_of_getElem? (i := 0) rfl)
theorem dX8_worksPart_1 : decode cX8_worksPart 1 = .ok (.iload_n 1, 1) := bdX8_worksPart_0 (1, .iload_n 1, 1) (List.mem_of_getElem? (i := 1) rfl)
theorem dX8_worksPart_2 : decode cX8_worksPart 2 = .ok (.iconst 4, 1) := bdX8_worksPart_0 (2, .iconst 4, 1) (List.mem_of_getElem? (i := 2) rfl)
theorem dX8_worksPart_3 : decode cX8_worksPart 3 = .ok (.invokevirtual 87, 3) := bdX8_worksPart_0 (3, .invokevirtual 87, 3) (List.mem_of_getElem? (i := 3) rfl)
theorem dX8_worksPart_6 : decode cX8_worksPart 6 = .ok (.iload_n 2, 1) := bdX8_worksPart_0 (6, .iload_n 2, 1) (List.mem_of_getElem? (i := 4) rfl)
theorem dX8_worksPart_7 : decode cX8_worksPart 7 = .ok (.if_icmp .ne 7, 3) := bdX8_worksPart_0 (7, .if_icmp .ne 7, 3) (List.mem_of_getElem? (i := 5) rfl)
theorem dX8_worksPart_10 : decode cX8_worksPart 10 = .ok (.iconst 1, 1) := bdX8_worksPart_0 (10, .iconst 1, 1) (List.mem_of_getElem? (i := 6) rfl)
theorem dX8_worksPart_11 : decode cX8_worksPart 11 = .ok (.goto 4, 3) := bdX8_worksPart_0 (11, .goto 4, 3) (List.mem_of_getElem? (i := 7) rfl)
theorem dX8_worksPart_14 : decode cX8_worksPart 14 = .ok (.iconst 0, 1) := bdX8_worksPart_0 (14, .iconst 0, 1) (List.mem_of_getElem? (i := 8) rfl)
theorem dX8_worksPart_15 : decode cX8_worksPart 15 = .ok (.istore_n 3, 1) := bdX8_worksPart_0 (15, .istore_n 3, 1) (List.mem_of_getElem? (i := 9) rfl)
theorem dX8_worksPart_16 : decode cX8_worksPart 16 = .ok (.aload_n 0, 1) := bdX8_worksPart_0 (16, .aload_n 0, 1) (List.mem_of_getElem? (i := 10) rfl)
theorem dX8_worksPart_17 : decode cX8_worksPart 17 = .ok (.iload_n 1, 1) := bdX8_worksPart_0 (17, .iload_n 1, 1) (List.mem_of_getElem? (i := 11) rfl)
theorem dX8_worksPart_18 : decode cX8_worksPart 18 = .ok (.iconst 1, 1) := bdX8_worksPart_0 (18, .iconst 1, 1) (List.mem_of_getElem? (i := 12) rfl)
theorem dX8_worksPart_19 : decode cX8_worksPart 19 = .ok (.invokevirtual 87, 3) := bdX8_worksPart_0 (19, .invokevirtual 87, 3) (List.mem_of_getElem? (i := 13) rfl)
theorem dX8_worksPart_22 : decode cX8_worksPart 22 = .ok (.istore 4, 2) := bdX8_worksPart_0 (22, .istore 4, 2) (List.mem_of_getElem? (i := 14) rfl)
theorem dX8_worksPart_24 : decode cX8_worksPart 24 = .ok (.aload_n 0, 1) := bdX8_worksPart_0 (24, .aload_n 0, 1) (List.mem_of_getElem? (i := 15) rfl)
theorem dX8_worksPart_25 : decode cX8_worksPart 25 = .ok (.iload_n 1, 1) := bdX8_worksPart_0 (25, .iload_n 1, 1) (List.mem_of_getElem? (i := 16) rfl)
theorem dX8_worksPart_26 : decode cX8_worksPart 26 = .ok (.iconst 2, 1) := bdX8_worksPart_0 (26, .iconst 2, 1) (List.mem_of_getElem? (i := 17) rfl)
theorem dX8_worksPart_27 : decode cX8_worksPart 27 = .ok (.invokevirtual 87, 3) := bdX8_worksPart_0 (27, .invokevirtual 87, 3) (List.mem_of_getElem? (i := 18) rfl)
theorem dX8_worksPart_30 : decode cX8_worksPart 30 = .ok (.istore 5, 2) := bdX8_worksPart_0 (30, .istore 5, 2) (List.mem_of_getElem? (i := 19) rfl)
theorem dX8_worksPart_32 : decode cX8_worksPart 32 = .ok (.iload 4, 2) := bdX8_worksPart_0 (32, .iload 4, 2) (List.mem_of_getElem? (i := 20) rfl)
theorem dX8_worksPart_34 : decode cX8_worksPart 34 = .ok (.ifCond .ge 16, 3) := bdX8_worksPart_0 (34, .ifCond .ge 16, 3) (List.mem_of_getElem? (i := 21) rfl)
theorem dX8_worksPart_37 : decode cX8_worksPart 37 = .ok (.iload_n 3, 1) := bdX8_worksPart_0 (37, .iload_n 3, 1) (List.mem_of_getElem? (i := 22) rfl)
theorem dX8_worksPart_38 : decode cX8_worksPart 38 = .ok (.ifCond .eq 8, 3) := bdX8_worksPart_0 (38, .ifCond .eq 8, 3) (List.mem_of_getElem? (i := 23) rfl)
theorem dX8_worksPart_41 : decode cX8_worksPart 41 = .ok (.bipush 64, 2) := bdX8_worksPart_0 (41, .bipush 64, 2) (List.mem_of_getElem? (i := 24) rfl)
theorem dX8_worksPart_43 : decode cX8_worksPart 43 = .ok (.goto 16, 3) := bdX8_worksPart_0 (43, .goto 16, 3) (List.mem_of_getElem? (i := 25) rfl)
theorem dX8_worksPart_46 : decode cX8_worksPart 46 = .ok (.iconst 0, 1) := bdX8_worksPart_0 (46, .iconst 0, 1) (List.mem_of_getElem? (i := 26) rfl)
theorem dX8_worksPart_47 : decode cX8_worksPart 47 = .ok (.goto 12, 3) := bdX8_worksPart_0 (47, .goto 12, 3) (List.mem_of_getElem? (i := 27) rfl)
theorem dX8_worksPart_50 : decode cX8_worksPart 50 = .ok (.aload_n 0, 1) := bdX8_worksPart_0 (50, .aload_n 0, 1) (List.mem_of_getElem? (i := 28) rfl)
theorem dX8_worksPart_51 : decode cX8_worksPart 51 = .ok (.iload 4, 2) := bdX8_worksPart_0 (51, .iload 4, 2) (List.mem_of_getElem? (i := 29) rfl)
theorem dX8_worksPart_53 : decode cX8_worksPart 53 = .ok (.iload 5, 2) := bdX8_worksPart_0 (53, .iload 5, 2) (List.mem_of_getElem? (i := 30) rfl)
theorem dX8_worksPart_55 : decode cX8_worksPart 55 = .ok (.iload_n 2, 1) := bdX8_worksPart_0 (55, .iload_n 2, 1) (List.mem_of_getElem? (i := 31) rfl)
theorem dX8_worksPart_56 : decode cX8_worksPart 56 = .ok (.invokevirtual 124, 3) := bdX8_worksPart_0 (56, .invokevirtual 124, 3) (List.mem_of_getElem? (i := 32) rfl)
theorem dX8_worksPart_59 : decode cX8_worksPart 59 = .ok (.istore 6, 2) := bdX8_worksPart_0 (59, .istore 6, 2) (List.mem_of_getElem? (i := 33) rfl)
theorem dX8_worksPart_61 : decode cX8_worksPart 61 = .ok (.iload 6, 2) := bdX8_worksPart_0 (61, .iload 6, 2) (List.mem_of_getElem? (i := 34) rfl)
theorem dX8_worksPart_63 : decode cX8_worksPart 63 = .ok (.iconst 2, 1) := bdX8_worksPart_0 (63, .iconst 2, 1) (List.mem_of_getElem? (i := 35) rfl)
theorem dX8_worksPart_64 : decode cX8_worksPart 64 = .ok (.if_icmp .ge 7, 3) := bdX8_worksPart_0 (64, .if_icmp .ge 7, 3) (List.mem_of_getElem? (i := 36) rfl)
theorem dX8_worksPart_67 : decode cX8_worksPart 67 = .ok (.iconst 0, 1) := bdX8_worksPart_0 (67, .iconst 0, 1) (List.mem_of_getElem? (i := 37) rfl)
theorem dX8_worksPart_68 : decode cX8_worksPart 68 = .ok (.goto 7, 3) := bdX8_worksPart_0 (68, .goto 7, 3) (List.mem_of_getElem? (i := 38) rfl)
theorem dX8_worksPart_71 : decode cX8_worksPart 71 = .ok (.iload 6, 2) := bdX8_worksPart_0 (71, .iload 6, 2) (List.mem_of_getElem? (i := 39) rfl)
theorem bdX8_worksPart_73 : ∀ q ∈ ([(73, .iconst 2, 1), (74, .isub, 1), (75, .istore 7, 2), (77, .aload_n 0, 1), (78, .iload_n 1, 1), (79, .iconst 0, 1), (80, .invokevirtual 87, 3), (116, .iload 7, 2), (118, .ireturn, 1), (119, .iload_n 3, 1), (120, .ifCond .eq 8, 3), (123, .bipush 64, 2), (125, .goto 5, 3), (128, .iload 6, 2), (130, .ireturn, 1), (131, .iload 7, 2), (133, .iconst 2, 1), (135, .ireturn, 1), (136, .iload_n 3, 1), (137, .ifCond .eq 8, 3), (140, .bipush 8, 2), (142, .goto 4, 3), (145, .iconst 0, 1), (146, .ireturn, 1), (147, .iload 5, 2), (149, .ifCond .ge 7, 3), (152, .iconst 0, 1), (153, .goto 15, 3), (156, .aload_n 0, 1), (157, .getfield 19, 3), (160, .bipush 8, 2), (162, .iload 5, 2), (164, .imul, 1), (165, .iload_n 2, 1), (166, .iadd, 1), (167, .iaload, 1), (168, .ireturn, 1), (169, .iload 6, 2), (171, .ireturn, 1)] : List (Nat × Jvm.ClassFile.Instr × Nat)), decode cX8_worksPart q.1 = .ok q.2 := chk_ok _ 73 _ rfl (by decide +kernel)
theorem dX8_worksPart_73 : decode cX8_worksPart 73 = .ok (.iconst 2, 1) := bdX8_worksPart_73 (73, .iconst 2, 1) (List.mem_of_getElem? (i := 0) rfl)
theorem dX8_worksPart_74 : decode cX8_worksPart 74 = .ok (.isub, 1) := bdX8_worksPart_73 (74, .isub, 1) (List.mem_of_getElem? (i := 1) rfl)
theorem dX8_worksPart_75 : decode cX8_worksPart 75 = .ok (.istore 7, 2) := bdX8_worksPart_73 (75, .istore 7, 2) (List.mem_of_getElem? (i := 2) rfl)
theorem dX8_worksPart_77 : decode cX8_worksPart 77 = .ok (.aload_n 0, 1) := bdX8_worksPart_73 (77, .aload_n 0, 1) (List.mem_of_getElem? (i := 3) rfl)
theorem dX8_worksPart_78 : decode cX8_worksPart 78 = .ok (.iload_n 1, 1) := bdX8_worksPart_73 (78, .iload_n 1, 1) (List.mem_of_getElem? (i := 4) rfl)
theorem dX8_worksPart_79 : decode cX8_worksPart 79 = .ok (.iconst 0, 1) := bdX8_worksPart_73 (79, .iconst 0, 1) (List.mem_of_getElem? (i := 5) rfl)
theorem dX8_worksPart_80 : decode cX8_worksPart 80 = .ok (.invokevirtual 87, 3) := bdX8_worksPart_73 (80, .invokevirtual 87, 3) (List.mem_of_getElem? (i := 6) rfl)
theorem dX8_worksPart_116 : decode cX8_worksPart 116 = .ok (.iload 7, 2) := bdX8_worksPart_73 (116, .iload 7, 2) (List.mem_of_getElem? (i := 7) rfl)
theorem dX8_worksPart_118 : decode cX8_worksPart 118 = .ok (.ireturn, 1) := bdX8_worksPart_73 (118, .ireturn, 1) (List.mem_of_getElem? (i := 8) rfl)
theorem dX8_worksPart_119 : decode cX8_worksPart 119 = .ok (.iload_n 3, 1) := bdX8_worksPart_73 (119, .iload_n 3, 1) (List.mem_of_getElem? (i := 9) rfl)
theorem dX8_worksPart_120 : decode cX8_worksPart 120 = .ok (.ifCond .eq 8, 3) := bdX8_worksPart_73 (120, .ifCond .eq 8, 3) (List.mem_of_getElem? (i := 10) rfl)
theorem dX8_worksPart_123 : decode cX8_worksPart 123 = .ok (.bipush 64, 2) := bdX8_worksPart_73 (123, .bipush 64, 2) (List.mem_of_getElem? (i := 11) rfl)
theorem dX8_worksPart_125 : decode cX8_worksPart 125 = .ok (.goto 5, 3) := bdX8_worksPart_73 (125, .goto 5, 3) (List.mem_of_getElem? (i := 12) rfl)
theorem dX8_worksPart_128 : decode cX8_worksPart 128 = .ok (.iload 6, 2) := bdX8_worksPart_73 (128, .iload 6, 2) (List.mem_of_getElem? (i := 13) rfl)
theorem dX8_worksPart_130 : decode cX8_worksPart 130 = .ok (.ireturn, 1) := bdX8_worksPart_73 (130, .ireturn, 1) (List.mem_of_getElem? (i := 14) rfl)
theorem dX8_worksPart_131 : decode cX8_worksPart 131 = .ok (.iload 7, 2) := bdX8_worksPart_73 (131, .iload 7, 2) (List.mem_of_getElem? (i := 15) rfl)
theorem dX8_worksPart_133 : decode cX8_worksPart 133 = .ok (.iconst 2, 1) := bdX8_worksPart_73 (133, .iconst 2, 1) (List.mem_of_getElem? (i := 16) rfl)
theorem dX8_worksPart_135 : decode cX8_worksPart 135 = .ok (.ireturn, 1) := bdX8_worksPart_73 (135, .ireturn, 1) (List.mem_of_getElem? (i := 17) rfl)
theorem dX8_worksPart_136 : decode cX8_worksPart 136 = .ok (.iload_n 3, 1) := bdX8_worksPart_73 (136, .iload_n 3, 1) (List.mem_of_getElem? (i := 18) rfl)
theorem dX8_worksPart_137 : decode cX8_worksPart 137 = .ok (.ifCond .eq 8, 3) := bdX8_worksPart_73 (137, .ifCond .eq 8, 3) (List.mem_of_getElem? (i := 19) rfl)
theorem dX8_worksPart_140 : decode cX8_worksPart 140 = .ok (.bipush 8, 2) := bdX8_worksPart_73 (140, .bipush 8, 2) (List.mem_of_getElem? (i := 20) rfl)
theorem dX8_worksPart_142 : decode cX8_worksPart 142 = .ok (.goto 4, 3) := bdX8_worksPart_73 (142, .goto 4, 3) (List.mem_of_getElem? (i := 21) rfl)
theorem dX8_worksPart_145 : decode cX8_worksPart 145 = .ok (.iconst 0, 1) := bdX8_worksPart_73 (145, .iconst 0, 1) (List.mem_of_getElem? (i := 22) rfl)
theorem dX8_worksPart_146 : decode cX8_worksPart 146 = .ok (.ireturn, 1) := bdX8_worksPart_73 (146, .ireturn, 1) (List.mem_of_getElem? (i := 23) rfl)
theorem dX8_worksPart_147 : decode cX8_worksPart 147 = .ok (.iload 5, 2) := bdX8_worksPart_73 (147, .iload 5, 2) (List.mem_of_getElem? (i := 24) rfl)
theorem dX8_worksPart_149 : decode cX8_worksPart 149 = .ok (.ifCond .ge 7, 3) := bdX8_worksPart_73 (149, .ifCond .ge 7, 3) (List.mem_of_getElem? (i := 25) rfl)
theorem dX8_worksPart_152 : decode cX8_worksPart 152 = .ok (.iconst 0, 1) := bdX8_worksPart_73 (152, .iconst 0, 1) (List.mem_of_getElem? (i := 26) rfl)
theorem dX8_worksPart_153 : decode cX8_worksPart 153 = .ok (.goto 15, 3) := bdX8_worksPart_73 (153, .goto 15, 3) (List.mem_of_getElem? (i := 27) rfl)
theorem dX8_worksPart_156 : decode cX8_worksPart 156 = .ok (.aload_n 0, 1) := bdX8_worksPart_73 (156, .aload_n 0, 1) (List.mem_of_getElem? (i := 28) rfl)
theorem dX8_worksPart_157 : decode cX8_worksPart 157 = .ok (.getfield 19, 3) := bdX8_worksPart_73 (157, .getfield 19, 3) (List.mem_of_getElem? (i := 29) rfl)
theorem dX8_worksPart_160 : decode cX8_worksPart 160 = .ok (.bipush 8, 2) := bdX8_worksPart_73 (160, .bipush 8, 2) (List.mem_of_getElem? (i := 30) rfl)
theorem dX8_worksPart_162 : decode cX8_worksPart 162 = .ok (.iload 5, 2) := bdX8_worksPart_73 (162, .iload 5, 2) (List.mem_of_getElem? (i := 31) rfl)
theorem dX8_worksPart_164 : decode cX8_worksPart 164 = .ok (.imul, 1) := bdX8_worksPart_73 (164, .imul, 1) (List.mem_of_getElem? (i := 32) rfl)
theorem dX8_worksPart_165 : decode cX8_worksPart 165 = .ok (.iload_n 2, 1) := bdX8_worksPart_73 (165, .iload_n 2, 1) (List.mem_of_getElem? (i := 33) rfl)
theorem dX8_worksPart_166 : decode cX8_worksPart 166 = .ok (.iadd, 1) := bdX8_worksPart_73 (166, .iadd, 1) (List.mem_of_getElem? (i := 34) rfl)
theorem dX8_worksPart_167 : decode cX8_worksPart 167 = .ok (.iaload, 1) := bdX8_worksPart_73 (167, .iaload, 1) (List.mem_of_getElem? (i := 35) rfl)
theorem dX8_worksPart_168 : decode cX8_worksPart 168 = .ok (.ireturn, 1) := bdX8_worksPart_73 (168, .ireturn, 1) (List.mem_of_getElem? (i := 36) rfl)
theorem dX8_worksPart_169 : decode cX8_worksPart 169 = .ok (.iload 6, 2) := bdX8_worksPart_73 (169, .iload 6, 2) (List.mem_of_getElem? (i := 37) rfl)
theorem dX8_worksPart_171 : decode cX8_worksPart 171 = .ok (.ireturn, 1) := bdX8_worksPart_73 (171, .ireturn, 1) (List.mem_of_getElem? (i := 38) rfl)
theorem dX8_worksPart_83 : decode cX8_worksPart 83 = .ok (.tableswitch 86 1 5 #[33, 36, 48, 53, 64], 33) := by decide +kernel
theorem dX8_worksPart_134 : decode cX8_worksPart 134 = .ok (.idiv, 1) := by decide +kernel
theorem kX8_124 : mthV RX8 124 8 yX8_childOf prog_10_method_17_code 5 (Option.some Jvm.ClassFile.FieldType.int) 3 := ⟨⟨⟨tw_1094, tw_67, tw_1097⟩, rfl, by decide +kernel⟩, tw_1096, tw_30, rfl⟩
def BX8_worksPart_75 (ln : Nat → Nat) (post : Int32 → HC → Prop) (S : HC) (x0 : Nat) (x1 : Int32) (x2 : Int32) (x3 : Int32) (x5 : Int32) (x6 : Int32) (t0 : Int32) : Prop := wpX8_of ln S x0 x1 (0 : Int32) fun z1 S => if z1 = (1 : Int32) then (post t0 S) else if z1 = (2 : Int32) then (if x3 = 0 then (post x6 S) else (post (64 : Int32) S)) else if z1 = (3 : Int32) then (ne_ (2 : Int32) <| lt_ (t0 / (2 : Int32)) fun z2 => post z2 S) else if z1 = (4 : Int32) then (if x3 = 0 then (post (0 : Int32) S) else (post (8 : Int32) S)) else if z1 = (5 : Int32) then (if 0 ≤ x5 then (dn_ (hR S x0 4) fun b3 => lt_ ((8 : Int32) * x5) fun z4 => lt_ (z4 + x2) fun z5 => al_ (ln b3) z5 (hI S b3) fun z6 => post z6 S) else (post (0 : Int32) S)) else post x6 S
def BX8_worksPart_59 (ln : Nat → Nat) (post : Int32 → HC → Prop) (S : HC) (x0 : Nat) (x1 : Int32) (x2 : Int32) (x3 : Int32) (x5 : Int32) (t0 : Int32) : Prop := if (2 : Int32) ≤ t0 then (lt_ (t0 - (2 : Int32)) fun z7 => BX8_worksPart_75 ln post S x0 x1 x2 x3 x5 t0 z7) else (BX8_worksPart_75 ln post S x0 x1 x2 x3 x5 t0 (0 : Int32))
def BX8_worksPart_15 (ln : Nat → Nat) (post : Int32 → HC → Prop) (S : HC) (x0 : Nat) (x1 : Int32) (x2 : Int32) (t0 : Int32) : Prop := wpX8_of ln S x0 x1 (1 : Int32) fun z8 S => wpX8_of ln S x0 x1 (2 : Int32) fun z9 S => if 0 ≤ z8 then (wpX8_childOf ln S x0 z8 z9 x2 fun z10 S => BX8_worksPart_59 ln post S x0 x1 x2 t0 z9 z10) else (if t0 = 0 then (BX8_worksPart_59 ln post S x0 x1 x2 t0 z9 (0 : Int32)) else (BX8_worksPart_59 ln post S x0 x1 x2 t0 z9 (64 : Int32)))
def wpX8_worksPart (ln : Nat → Nat) (S : HC) (a0 : Nat) (a1 : Int32) (a2 : Int32) (post : Int32 → HC → Prop) : Prop := wpX8_of ln S a0 a1 (4 : Int32) fun z11 S => if z11 = a2 then (BX8_worksPart_15 ln post S a0 a1 a2 (1 : Int32)) else (BX8_worksPart_15 ln post S a0 a1 a2 (0 : Int32))
abbrev rmX8_worksPart : Room := { frames := 4, cells := 0, slots := 0, locals := 95 }
set_option maxHeartbeats 4000000 in
set_option maxRecDepth 100000 in
theorem ctX8_worksPart {l : Launch} {g : GX} {N : Nat} {ln : Nat → Nat} {S : HC} {a0 : Nat} {a1 : Int32} {a2 : Int32} {post : Int32 → HC → Prop} (hr_a0 : a0 < N) (hk_a0 : kd a0 = 8) (h : wpX8_worksPart ln S a0 a1 a2 post) : Met l yX8_worksPart (Cond.code yX8_worksPart prog_10_method_18_code 8 (Option.some Jvm.ClassFile.FieldType.int) :: gtbl) rmX8_worksPart (va_Pc [.ref (gz g + a0), .int a1, .int a2] (AtP g N ln S)) (QI g N ln post) 0 0 (gF g) := by
  refine m_of (by decide) (Nat.le_of_ble_eq_true rfl) ?_
  intro p e s m below meth c ls F hr I hl
  have hl : lv_has ls 8 [(0, .ref (gz g + a0)), (1, .int a1), (2, .int a2)] := hl
  unfold wpX8_worksPart at h
  have hj_75 : ∀ (S : HC) (H : Heap) (locs : List Loc) (ls : Array Slot) (x0 : Nat) (x1 : Int32) (x2 : Int32) (x3 : Int32) (x5 : Int32) (x6 : Int32) (t0 : Int32), x0 < N → kd x0 = 8 → BX8_worksPart_75 ln post S x0 x1 x2 x3 x5 x6 t0 → Inv g N ln S s H locs → lv_has ls 8 [(0, .ref (gz g + x0)), (1, .int x1), (2, .int x2), (3, .int x3), (5, .int x5), (6, .int x6)] → W p l e rmX8_worksPart s m ([.ref (gz g + a0), .int a1, .int a2] : List Value).toArray below meth c H locs 0 0 (MQ below (QI g N ln post) ([.ref (gz g + a0), .int a1, .int a2] : List Value).toArray s 0 0 (gF g)) (F0 m 75 ls [.int t0]) := by
    intro S H locs ls x0 x1 x2 x3 x5 x6 t0 hr_x0 hk_x0 h I hl
    unfold BX8_worksPart_75 at h
    refine lv_istore (lv' := [(7, .int t0), (0, .ref (gz g + x0)), (1, .int x1), (2, .int x2), (3, .int x3), (5, .int x5), (6, .int x6)]) F.1 F.2.1 dX8_worksPart_75 hl (by decide) rfl (fun ls hl => ?_)
    refine lv_aload_n F.1 F.2.1 dX8_worksPart_77 rfl (lv_at hl 1 rfl) ?_
    refine lv_iload_n F.1 F.2.1 dX8_worksPart_78 rfl (lv_at hl 2 rfl) ?_
    refine lv_iconst (v := 0) F.1 F.2.1 dX8_worksPart_79 (by decide) ?_
    refine g_I I (run_V (As := [.int x1, .int (0 : Int32)]) (rest := []) F I hr_x0 hk_x0 (by decide) kX8_87 (ctX8_of hr_x0 hk_x0 h) ⟨rfl, rfl⟩ ⟨Nat.le_of_ble_eq_true rfl, Nat.le_of_ble_eq_true rfl⟩ rfl hl.1 rfl (Nat.le_of_ble_eq_true rfl) ⟨Nat.le_of_ble_eq_true rfl, Nat.le_of_ble_eq_true rfl⟩ dX8_worksPart_80) (fun z1 S H locs I h => ?_)
    by_cases c0 : z1 = (1 : Int32)
    · rw [if_pos c0] at h
      refine lv_tableIn (off := 33) (tgt := 116) F.1 F.2.1 dX8_worksPart_83 (by rw [c0]; decide) (by rw [c0]; decide) (by rw [c0]; rfl) (by decide) ?_
      refine lv_iload F.1 F.2.1 dX8_worksPart_116 (lv_at hl 0 rfl) ?_
      exact r_ireturn F I ⟨hr.1, hr.2.1, trivial⟩ h dX8_worksPart_118
    · rw [if_neg c0] at h
      by_cases c1 : z1 = (2 : Int32)
      · rw [if_pos c1] at h
        refine lv_tableIn (off := 36) (tgt := 119) F.1 F.2.1 dX8_worksPart_83 (by rw [c1]; decide) (by rw [c1]; decide) (by rw [c1]; rfl) (by decide) ?_
        refine lv_iload_n F.1 F.2.1 dX8_worksPart_119 rfl (lv_at hl 4 rfl) ?_
        refine r_if_eq (tgt := 128) F dX8_worksPart_120 (by decide) h (fun h => ?_) (fun h => ?_)
        · refine lv_iload F.1 F.2.1 dX8_worksPart_128 (lv_at hl 6 rfl) ?_
          exact r_ireturn F I ⟨hr.1, hr.2.1, trivial⟩ h dX8_worksPart_130
        · refine lv_bipush (v := 64) F.1 F.2.1 dX8_worksPart_123 (by decide) ?_
          refine lv_goto (tgt := 130) F.1 F.2.1 dX8_worksPart_125 (by decide) ?_
          exact r_ireturn F I ⟨hr.1, hr.2.1, trivial⟩ h dX8_worksPart_130
      · rw [if_neg c1] at h
        by_cases c2 : z1 = (3 : Int32)
        · rw [if_pos c2] at h
          refine lv_tableIn (off := 48) (tgt := 131) F.1 F.2.1 dX8_worksPart_83 (by rw [c2]; decide) (by rw [c2]; decide) (by rw [c2]; rfl) (by decide) ?_
          refine lv_iload F.1 F.2.1 dX8_worksPart_131 (lv_at hl 0 rfl) ?_
          refine lv_iconst (v := 2) F.1 F.2.1 dX8_worksPart_133 (by decide) ?_
          refine r_idiv F dX8_worksPart_134 h (fun z2 h => ?_)
          exact r_ireturn F I ⟨hr.1, hr.2.1, trivial⟩ h dX8_worksPart_135
        · rw [if_neg c2] at h
          by_cases c3 : z1 = (4 : Int32)
          · rw [if_pos c3] at h
            refine lv_tableIn (off := 53) (tgt := 136) F.1 F.2.1 dX8_worksPart_83 (by rw [c3]; decide) (by rw [c3]; decide) (by rw [c3]; rfl) (by decide) ?_
            refine lv_iload_n F.1 F.2.1 dX8_worksPart_136 rfl (lv_at hl 4 rfl) ?_
            refine r_if_eq (tgt := 145) F dX8_worksPart_137 (by decide) h (fun h => ?_) (fun h => ?_)
            · refine lv_iconst (v := 0) F.1 F.2.1 dX8_worksPart_145 (by decide) ?_
              exact r_ireturn F I ⟨hr.1, hr.2.1, trivial⟩ h dX8_worksPart_146
            · refine lv_bipush (v := 8) F.1 F.2.1 dX8_worksPart_140 (by decide) ?_
              refine lv_goto (tgt := 146) F.1 F.2.1 dX8_worksPart_142 (by decide) ?_
              exact r_ireturn F I ⟨hr.1, hr.2.1, trivial⟩ h dX8_worksPart_146
          · rw [if_neg c3] at h
            by_cases c4 : z1 = (5 : Int32)
            · rw [if_pos c4] at h
              refine lv_tableIn (off := 64) (tgt := 147) F.1 F.2.1 dX8_worksPart_83 (by rw [c4]; decide) (by rw [c4]; decide) (by rw [c4]; rfl) (by decide) ?_
              refine lv_iload F.1 F.2.1 dX8_worksPart_147 (lv_at hl 5 rfl) ?_
              refine r_if_ge (tgt := 156) F dX8_worksPart_149 (by decide) h (fun h => ?_) (fun h => ?_)
              · refine lv_aload_n F.1 F.2.1 dX8_worksPart_156 rfl (lv_at hl 1 rfl) ?_
                refine r_getN F I hr_x0 hk_x0 fX8_19 (f := 9) rfl (by decide) dX8_worksPart_157 h (fun b3 hr_b3 hk_b3 h => ?_)
                refine lv_bipush (v := 8) F.1 F.2.1 dX8_worksPart_160 (by decide) ?_
                refine lv_iload F.1 F.2.1 dX8_worksPart_162 (lv_at hl 5 rfl) ?_
                refine r_imul F dX8_worksPart_164 h (fun z4 h => ?_)
                refine lv_iload_n F.1 F.2.1 dX8_worksPart_165 rfl (lv_at hl 3 rfl) ?_
                refine r_iadd F dX8_worksPart_166 h (fun z5 h => ?_)
                refine r_ald F I hr_b3 hk_b3 dX8_worksPart_167 h (fun z6 h => ?_)
                exact r_ireturn F I ⟨hr.1, hr.2.1, trivial⟩ h dX8_worksPart_168
              · refine lv_iconst (v := 0) F.1 F.2.1 dX8_worksPart_152 (by decide) ?_
                refine lv_goto (tgt := 168) F.1 F.2.1 dX8_worksPart_153 (by decide) ?_
                exact r_ireturn F I ⟨hr.1, hr.2.1, trivial⟩ h dX8_worksPart_168
            · rw [if_neg c4] at h
              have e0 := lv_neT (a := 1) c0 (by decide)
              have e1 := lv_neT (a := 2) c1 (by decide)
              have e2 := lv_neT (a := 3) c2 (by decide)
              have e3 := lv_neT (a := 4) c3 (by decide)
              have e4 := lv_neT (a := 5) c4 (by decide)
              refine lv_tableOut (tgt := 169) F.1 F.2.1 dX8_worksPart_83 (by omega) (by decide) ?_
              refine lv_iload F.1 F.2.1 dX8_worksPart_169 (lv_at hl 6 rfl) ?_
              exact r_ireturn F I ⟨hr.1, hr.2.1, trivial⟩ h dX8_worksPart_171
  have hj_59 : ∀ (S : HC) (H : Heap) (locs : List Loc) (ls : Array Slot) (x0 : Nat) (x1 : Int32) (x2 : Int32) (x3 : Int32) (x5 : Int32) (t0 : Int32), x0 < N → kd x0 = 8 → BX8_worksPart_59 ln post S x0 x1 x2 x3 x5 t0 → Inv g N ln S s H locs → lv_has ls 8 [(0, .ref (gz g + x0)), (1, .int x1), (2, .int x2), (3, .int x3), (5, .int x5)] → W p l e rmX8_worksPart s m ([.ref (gz g + a0), .int a1, .int a2] : List Value).toArray below meth c H locs 0 0 (MQ below (QI g N ln post) ([.ref (gz g + a0), .int a1, .int a2] : List Value).toArray s 0 0 (gF g)) (F0 m 59 ls [.int t0]) := by
    intro S H locs ls x0 x1 x2 x3 x5 t0 hr_x0 hk_x0 h I hl
    unfold BX8_worksPart_59 at h
    refine lv_istore (lv' := [(6, .int t0), (0, .ref (gz g + x0)), (1, .int x1), (2, .int x2), (3, .int x3), (5, .int x5)]) F.1 F.2.1 dX8_worksPart_59 hl (by decide) rfl (fun ls hl => ?_)
    refine lv_iload F.1 F.2.1 dX8_worksPart_61 (lv_at hl 0 rfl) ?_
    refine lv_iconst (v := 2) F.1 F.2.1 dX8_worksPart_63 (by decide) ?_
    refine r_icmp_ge (tgt := 71) F dX8_worksPart_64 (by decide) h (fun h => ?_) (fun h => ?_)
    · refine lv_iload F.1 F.2.1 dX8_worksPart_71 (lv_at hl 0 rfl) ?_
      refine lv_iconst (v := 2) F.1 F.2.1 dX8_worksPart_73 (by decide) ?_
      refine r_isub F dX8_worksPart_74 h (fun z7 h => ?_)
      exact hj_75 S _ _ _ x0 x1 x2 x3 x5 t0 z7 hr_x0 hk_x0 h I (lv_sub hl [1, 2, 3, 4, 5, 0] rfl)
    · refine lv_iconst (v := 0) F.1 F.2.1 dX8_worksPart_67 (by decide) ?_
      refine lv_goto (tgt := 75) F.1 F.2.1 dX8_worksPart_68 (by decide) ?_
      exact hj_75 S _ _ _ x0 x1 x2 x3 x5 t0 (0 : Int32) hr_x0 hk_x0 h I (lv_sub hl [1, 2, 3, 4, 5, 0] rfl)
  have hj_15 : ∀ (S : HC) (H : Heap) (locs : List Loc) (ls : Array Slot) (x0 : Nat) (x1 : Int32) (x2 : Int32) (t0 : Int32), x0 < N → kd x0 = 8 → BX8_worksPart_15 ln post S x0 x1 x2 t0 → Inv g N ln S s H locs → lv_has ls 8 [(0, .ref (gz g + x0)), (1, .int x1), (2, .int x2)] → W p l e rmX8_worksPart s m ([.ref (gz g + a0), .int a1, .int a2] : List Value).toArray below meth c H locs 0 0 (MQ below (QI g N ln post) ([.ref (gz g + a0), .int a1, .int a2] : List Value).toArray s 0 0 (gF g)) (F0 m 15 ls [.int t0]) := by
    intro S H locs ls x0 x1 x2 t0 hr_x0 hk_x0 h I hl
    unfold BX8_worksPart_15 at h
    refine lv_istore_n (lv' := [(3, .int t0), (0, .ref (gz g + x0)), (1, .int x1), (2, .int x2)]) F.1 F.2.1 dX8_worksPart_15 rfl hl (by decide) rfl (fun ls hl => ?_)
    refine lv_aload_n F.1 F.2.1 dX8_worksPart_16 rfl (lv_at hl 1 rfl) ?_
    refine lv_iload_n F.1 F.2.1 dX8_worksPart_17 rfl (lv_at hl 2 rfl) ?_
    refine lv_iconst (v := 1) F.1 F.2.1 dX8_worksPart_18 (by decide) ?_
    refine g_I I (run_V (As := [.int x1, .int (1 : Int32)]) (rest := []) F I hr_x0 hk_x0 (by decide) kX8_87 (ctX8_of hr_x0 hk_x0 h) ⟨rfl, rfl⟩ ⟨Nat.le_of_ble_eq_true rfl, Nat.le_of_ble_eq_true rfl⟩ rfl hl.1 rfl (Nat.le_of_ble_eq_true rfl) ⟨Nat.le_of_ble_eq_true rfl, Nat.le_of_ble_eq_true rfl⟩ dX8_worksPart_19) (fun z8 S H locs I h => ?_)
    refine lv_istore (lv' := [(4, .int z8), (3, .int t0), (0, .ref (gz g + x0)), (1, .int x1), (2, .int x2)]) F.1 F.2.1 dX8_worksPart_22 hl (by decide) rfl (fun ls hl => ?_)
    refine lv_aload_n F.1 F.2.1 dX8_worksPart_24 rfl (lv_at hl 2 rfl) ?_
    refine lv_iload_n F.1 F.2.1 dX8_worksPart_25 rfl (lv_at hl 3 rfl) ?_
    refine lv_iconst (v := 2) F.1 F.2.1 dX8_worksPart_26 (by decide) ?_
    refine g_I I (run_V (As := [.int x1, .int (2 : Int32)]) (rest := []) F I hr_x0 hk_x0 (by decide) kX8_87 (ctX8_of hr_x0 hk_x0 h) ⟨rfl, rfl⟩ ⟨Nat.le_of_ble_eq_true rfl, Nat.le_of_ble_eq_true rfl⟩ rfl hl.1 rfl (Nat.le_of_ble_eq_true rfl) ⟨Nat.le_of_ble_eq_true rfl, Nat.le_of_ble_eq_true rfl⟩ dX8_worksPart_27) (fun z9 S H locs I h => ?_)
    refine lv_istore (lv' := [(5, .int z9), (4, .int z8), (3, .int t0), (0, .ref (gz g + x0)), (1, .int x1), (2, .int x2)]) F.1 F.2.1 dX8_worksPart_30 hl (by decide) rfl (fun ls hl => ?_)
    refine lv_iload F.1 F.2.1 dX8_worksPart_32 (lv_at hl 1 rfl) ?_
    refine r_if_ge (tgt := 50) F dX8_worksPart_34 (by decide) h (fun h => ?_) (fun h => ?_)
    · refine lv_aload_n F.1 F.2.1 dX8_worksPart_50 rfl (lv_at hl 3 rfl) ?_
      refine lv_iload F.1 F.2.1 dX8_worksPart_51 (lv_at hl 1 rfl) ?_
      refine lv_iload F.1 F.2.1 dX8_worksPart_53 (lv_at hl 0 rfl) ?_
      refine lv_iload_n F.1 F.2.1 dX8_worksPart_55 rfl (lv_at hl 5 rfl) ?_
      refine g_I I (run_V (As := [.int z8, .int z9, .int x2]) (rest := []) F I hr_x0 hk_x0 (by decide) kX8_124 (ctX8_childOf hr_x0 hk_x0 h) ⟨rfl, rfl⟩ ⟨Nat.le_of_ble_eq_true rfl, Nat.le_of_ble_eq_true rfl⟩ rfl hl.1 rfl (Nat.le_of_ble_eq_true rfl) ⟨Nat.le_of_ble_eq_true rfl, Nat.le_of_ble_eq_true rfl⟩ dX8_worksPart_56) (fun z10 S H locs I h => ?_)
      exact hj_59 S _ _ _ x0 x1 x2 t0 z9 z10 hr_x0 hk_x0 h I (lv_sub hl [3, 4, 5, 2, 0] rfl)
    · refine lv_iload_n F.1 F.2.1 dX8_worksPart_37 rfl (lv_at hl 2 rfl) ?_
      refine r_if_eq (tgt := 46) F dX8_worksPart_38 (by decide) h (fun h => ?_) (fun h => ?_)
      · refine lv_iconst (v := 0) F.1 F.2.1 dX8_worksPart_46 (by decide) ?_
        refine lv_goto (tgt := 59) F.1 F.2.1 dX8_worksPart_47 (by decide) ?_
        exact hj_59 S _ _ _ x0 x1 x2 t0 z9 (0 : Int32) hr_x0 hk_x0 h I (lv_sub hl [3, 4, 5, 2, 0] rfl)
      · refine lv_bipush (v := 64) F.1 F.2.1 dX8_worksPart_41 (by decide) ?_
        refine lv_goto (tgt := 59) F.1 F.2.1 dX8_worksPart_43 (by decide) ?_
        exact hj_59 S _ _ _ x0 x1 x2 t0 z9 (64 : Int32) hr_x0 hk_x0 h I (lv_sub hl [3, 4, 5, 2, 0] rfl)
  refine lv_aload_n F.1 F.2.1 dX8_worksPart_0 rfl (lv_at hl 0 rfl) ?_
  refine lv_iload_n F.1 F.2.1 dX8_worksPart_1 rfl (lv_at hl 1 rfl) ?_
  refine lv_iconst (v := 4) F.1 F.2.1 dX8_worksPart_2 (by decide) ?_
  refine g_I I (run_V (As := [.int a1, .int (4 : Int32)]) (rest := []) F I hr_a0 hk_a0 (by decide) kX8_87 (ctX8_of hr_a0 hk_a0 h) ⟨rfl, rfl⟩ ⟨Nat.le_of_ble_eq_true rfl, Nat.le_of_ble_eq_true rfl⟩ rfl hl.1 rfl (Nat.le_of_ble_eq_true rfl) ⟨Nat.le_of_ble_eq_true rfl, Nat.le_of_ble_eq_true rfl⟩ dX8_worksPart_3) (fun z11 S H locs I h => ?_)
  refine lv_iload_n F.1 F.2.1 dX8_worksPart_6 rfl (lv_at hl 2 rfl) ?_
  refine r_icmp_ne (tgt := 14) F dX8_worksPart_7 (by decide) h (fun h => ?_) (fun h => ?_)
  · refine lv_iconst (v := 0) F.1 F.2.1 dX8_worksPart_14 (by decide) ?_
    exact hj_15 S _ _ _ a0 a1 a2 (0 : Int32) hr_a0 hk_a0 h I (lv_sub hl [0, 1, 2] rfl)
  · refine lv_iconst (v := 1) F.1 F.2.1 dX8_worksPart_10 (by decide) ?_
    refine lv_goto (tgt := 15) F.1 F.2.1 dX8_worksPart_11 (by decide) ?_
    exact hj_15 S _ _ _ a0 a1 a2 (1 : Int32) hr_a0 hk_a0 h I (lv_sub hl [0, 1, 2] rfl)
theorem bdX8_worksOf_0 : ∀ q ∈ ([(0, .iconst 0, 1), (1, .istore_n 2, 1), (2, .iload_n 2, 1), (3, .aload_n 0, 1), (4, .getfield 9, 3), (7, .iconst 1, 1), (8, .iaload, 1), (9, .if_icmp .ge 26, 3), (12, .aload_n 0, 1), (13, .getfield 19, 3), (16, .bipush 8, 2), (18, .iload_n 2, 1), (19, .imul, 1), (20, .iload_n 1, 1), (21, .iadd, 1), (22, .aload_n 0, 1), (23, .iload_n 2, 1), (24, .iload_n 1, 1), (25, .invokevirtual 127, 3), (28, .iastore, 1), (29, .iinc 2 1, 3), (32, .goto (-30), 3), (35, .return_, 1)] : List (Nat × Jvm.ClassFile.Instr × Nat)), decode cX8_worksOf q.1 = .ok q.2 := chk_ok _ 0 _ rfl (by decide +kernel)
theorem dX8_worksOf_0 : decode cX8_worksOf 0 = .ok (.iconst 0, 1) := bdX8_worksOf_0 (0, .iconst 0, 1) (List.mem_of_getElem? (i := 0) rfl)
theorem dX8_worksOf_1 : decode cX8_worksOf 1 = .ok (.istore_n 2, 1) := bdX8_worksOf_0 (1, .istore_n 2, 1) (List.mem_of_getElem? (i := 1) rfl)
theorem dX8_worksOf_2 : decode cX8_worksOf 2 = .ok (.iload_n 2, 1) := bdX8_worksOf_0 (2, .iload_n 2, 1) (List.mem_of_getElem? (i := 2) rfl)
theorem dX8_worksOf_3 : decode cX8_worksOf 3 = .ok (.aload_n 0, 1) := bdX8_worksOf_0 (3, .aload_n 0, 1) (List.mem_of_getElem? (i := 3) rfl)
theorem dX8_worksOf_4 : decode cX8_worksOf 4 = .ok (.getfield 9, 3) := bdX8_worksOf_0 (4, .getfield 9, 3) (List.mem_of_getElem? (i := 4) rfl)
theorem dX8_worksOf_7 : decode cX8_worksOf 7 = .ok (.iconst 1, 1) := bdX8_worksOf_0 (7, .iconst 1, 1) (List.mem_of_getElem? (i := 5) rfl)
theorem dX8_worksOf_8 : decode cX8_worksOf 8 = .ok (.iaload, 1) := bdX8_worksOf_0 (8, .iaload, 1) (List.mem_of_getElem? (i := 6) rfl)
theorem dX8_worksOf_9 : decode cX8_worksOf 9 = .ok (.if_icmp .ge 26, 3) := bdX8_worksOf_0 (9, .if_icmp .ge 26, 3) (List.mem_of_getElem? (i := 7) rfl)
theorem dX8_worksOf_12 : decode cX8_worksOf 12 = .ok (.aload_n 0, 1) := bdX8_worksOf_0 (12, .aload_n 0, 1) (List.mem_of_getElem? (i := 8) rfl)
theorem dX8_worksOf_13 : decode cX8_worksOf 13 = .ok (.getfield 19, 3) := bdX8_worksOf_0 (13, .getfield 19, 3) (List.mem_of_getElem? (i := 9) rfl)
theorem dX8_worksOf_16 : decode cX8_worksOf 16 = .ok (.bipush 8, 2) := bdX8_worksOf_0 (16, .bipush 8, 2) (List.mem_of_getElem? (i := 10) rfl)
theorem dX8_worksOf_18 : decode cX8_worksOf 18 = .ok (.iload_n 2, 1) := bdX8_worksOf_0 (18, .iload_n 2, 1) (List.mem_of_getElem? (i := 11) rfl)
theorem dX8_worksOf_19 : decode cX8_worksOf 19 = .ok (.imul, 1) := bdX8_worksOf_0 (19, .imul, 1) (List.mem_of_getElem? (i := 12) rfl)
theorem dX8_worksOf_20 : decode cX8_worksOf 20 = .ok (.iload_n 1, 1) := bdX8_worksOf_0 (20, .iload_n 1, 1) (List.mem_of_getElem? (i := 13) rfl)
theorem dX8_worksOf_21 : decode cX8_worksOf 21 = .ok (.iadd, 1) := bdX8_worksOf_0 (21, .iadd, 1) (List.mem_of_getElem? (i := 14) rfl)
theorem dX8_worksOf_22 : decode cX8_worksOf 22 = .ok (.aload_n 0, 1) := bdX8_worksOf_0 (22, .aload_n 0, 1) (List.mem_of_getElem? (i := 15) rfl)
theorem dX8_worksOf_23 : decode cX8_worksOf 23 = .ok (.iload_n 2, 1) := bdX8_worksOf_0 (23, .iload_n 2, 1) (List.mem_of_getElem? (i := 16) rfl)
theorem dX8_worksOf_24 : decode cX8_worksOf 24 = .ok (.iload_n 1, 1) := bdX8_worksOf_0 (24, .iload_n 1, 1) (List.mem_of_getElem? (i := 17) rfl)
theorem dX8_worksOf_25 : decode cX8_worksOf 25 = .ok (.invokevirtual 127, 3) := bdX8_worksOf_0 (25, .invokevirtual 127, 3) (List.mem_of_getElem? (i := 18) rfl)
theorem dX8_worksOf_28 : decode cX8_worksOf 28 = .ok (.iastore, 1) := bdX8_worksOf_0 (28, .iastore, 1) (List.mem_of_getElem? (i := 19) rfl)
theorem dX8_worksOf_29 : decode cX8_worksOf 29 = .ok (.iinc 2 1, 3) := bdX8_worksOf_0 (29, .iinc 2 1, 3) (List.mem_of_getElem? (i := 20) rfl)
theorem dX8_worksOf_32 : decode cX8_worksOf 32 = .ok (.goto (-30), 3) := bdX8_worksOf_0 (32, .goto (-30), 3) (List.mem_of_getElem? (i := 21) rfl)
theorem dX8_worksOf_35 : decode cX8_worksOf 35 = .ok (.return_, 1) := bdX8_worksOf_0 (35, .return_, 1) (List.mem_of_getElem? (i := 22) rfl)
theorem kX8_127 : mthV RX8 127 8 yX8_worksPart prog_10_method_18_code 8 (Option.some Jvm.ClassFile.FieldType.int) 2 := ⟨⟨⟨tw_1090, tw_67, tw_1093⟩, rfl, by decide +kernel⟩, tw_1092, tw_29, rfl⟩
def LX8_worksOf_2 (ln : Nat → Nat) (post : HC → Prop) : Nat → HC → Nat → Int32 → Int32 → Prop
  | 0 => fun _ _ _ _ => False
  | n2 + 1 => fun S x0 x1 x2 => dn_ (hR S x0 0) fun b1 => al_ (ln b1) (1 : Int32) (hI S b1) fun z2 => if z2 ≤ x2 then (post S) else (dn_ (hR S x0 4) fun b3 => lt_ ((8 : Int32) * x2) fun z4 => lt_ (z4 + x1) fun z5 => wpX8_worksPart ln S x0 x2 x1 fun z6 S => as_ (ln b3) z5 (fun j => sI S b3 j z6) fun S => lt_ (x2 + (1 : Int32)) fun z7 => (LX8_worksOf_2 ln post n2) S x0 x1 z7)
def wpX8_worksOf (ln : Nat → Nat) (S : HC) (a0 : Nat) (a1 : Int32) (post : HC → Prop) : Prop := ∃ n2, LX8_worksOf_2 ln post n2 S a0 a1 (0 : Int32)
abbrev rmX8_worksOf : Room := { frames := 5, cells := 0, slots := 0, locals := 122 }
set_option maxHeartbeats 4000000 in
set_option maxRecDepth 100000 in
theorem ctX8_worksOf {l : Launch} {g : GX} {N : Nat} {ln : Nat → Nat} {S : HC} {a0 : Nat} {a1 : Int32} {post : HC → Prop} (hr_a0 : a0 < N) (hk_a0 : kd a0 = 8) (h : wpX8_worksOf ln S a0 a1 post) : Met l yX8_worksOf (Cond.code yX8_worksOf prog_10_method_19_code 3 (Option.none : Option Jvm.ClassFile.FieldType) :: gtbl) rmX8_worksOf (va_Pc [.ref (gz g + a0), .int a1] (AtP g N ln S)) (QV g N ln post) 0 0 (gF g) := by
  refine m_of (by decide) (Nat.le_of_ble_eq_true rfl) ?_
  intro p e s m below meth c ls F hr I hl
  have hl : lv_has ls 3 [(0, .ref (gz g + a0)), (1, .int a1)] := hl
  unfold wpX8_worksOf at h
  have hl_2 : ∀ n2 : Nat, ∀ (S : HC) (H : Heap) (locs : List Loc) (ls : Array Slot) (x0 : Nat) (x1 : Int32) (x2 : Int32), x0 < N → kd x0 = 8 → LX8_worksOf_2 ln post n2 S x0 x1 x2 → Inv g N ln S s H locs → lv_has ls 3 [(0, .ref (gz g + x0)), (1, .int x1), (2, .int x2)] → W p l e rmX8_worksOf s m ([.ref (gz g + a0), .int a1] : List Value).toArray below meth c H locs 0 0 (MQ below (QV g N ln post) ([.ref (gz g + a0), .int a1] : List Value).toArray s 0 0 (gF g)) (F0 m 2 ls []) := by
    intro n2
    induction n2 with
    | zero =>
      intro S H locs ls x0 x1 x2 hr_x0 hk_x0 h I hl
      exact h.elim
    | succ n2 ih =>
      have hk2 := ih
      intro S H locs ls x0 x1 x2 hr_x0 hk_x0 h I hl
      rw [LX8_worksOf_2] at h
      refine lv_iload_n F.1 F.2.1 dX8_worksOf_2 rfl (lv_at hl 2 rfl) ?_
      refine lv_aload_n F.1 F.2.1 dX8_worksOf_3 rfl (lv_at hl 0 rfl) ?_
      refine r_getN F I hr_x0 hk_x0 fX8_9 (f := 9) rfl (by decide) dX8_worksOf_4 h (fun b1 hr_b1 hk_b1 h => ?_)
      refine lv_iconst (v := 1) F.1 F.2.1 dX8_worksOf_7 (by decide) ?_
      refine r_ald F I hr_b1 hk_b1 dX8_worksOf_8 h (fun z2 h => ?_)
      refine r_icmp_ge (tgt := 35) F dX8_worksOf_9 (by decide) h (fun h => ?_) (fun h => ?_)
      · exact r_vreturn F I ⟨hr.1, hr.2.1, trivial⟩ h dX8_worksOf_35
      · refine lv_aload_n F.1 F.2.1 dX8_worksOf_12 rfl (lv_at hl 0 rfl) ?_
        refine r_getN F I hr_x0 hk_x0 fX8_19 (f := 9) rfl (by decide) dX8_worksOf_13 h (fun b3 hr_b3 hk_b3 h => ?_)
        refine lv_bipush (v := 8) F.1 F.2.1 dX8_worksOf_16 (by decide) ?_
        refine lv_iload_n F.1 F.2.1 dX8_worksOf_18 rfl (lv_at hl 2 rfl) ?_
        refine r_imul F dX8_worksOf_19 h (fun z4 h => ?_)
        refine lv_iload_n F.1 F.2.1 dX8_worksOf_20 rfl (lv_at hl 1 rfl) ?_
        refine r_iadd F dX8_worksOf_21 h (fun z5 h => ?_)
        refine lv_aload_n F.1 F.2.1 dX8_worksOf_22 rfl (lv_at hl 0 rfl) ?_
        refine lv_iload_n F.1 F.2.1 dX8_worksOf_23 rfl (lv_at hl 2 rfl) ?_
        refine lv_iload_n F.1 F.2.1 dX8_worksOf_24 rfl (lv_at hl 1 rfl) ?_
        refine g_I I (run_V (As := [.int x2, .int x1]) (rest := [.int z5, .ref (gz g + b3)]) F I hr_x0 hk_x0 (by decide) kX8_127 (ctX8_worksPart hr_x0 hk_x0 h) ⟨rfl, rfl⟩ ⟨Nat.le_of_ble_eq_true rfl, Nat.le_of_ble_eq_true rfl⟩ rfl hl.1 rfl (Nat.le_of_ble_eq_true rfl) ⟨Nat.le_of_ble_eq_true rfl, Nat.le_of_ble_eq_true rfl⟩ dX8_worksOf_25) (fun z6 S H locs I h => ?_)
        refine r_ast F I hr_b3 hk_b3 dX8_worksOf_28 h (fun S H locs I h => ?_)
        obtain ⟨z7, e_z7, h⟩ := lt_x h
        refine lv_iinc (v := z7) (lv' := [(2, .int z7), (0, .ref (gz g + x0)), (1, .int x1)]) F.1 F.2.1 dX8_worksOf_29 hl (k := 2) rfl (by rw [e_z7]; rfl) (by decide) rfl (fun ls hl => ?_)
        refine lv_goto (tgt := 2) F.1 F.2.1 dX8_worksOf_32 (by decide) ?_
        exact hk2 S _ _ _ x0 x1 z7 hr_x0 hk_x0 h I (lv_sub hl [1, 2, 0] rfl)
  refine lv_iconst (v := 0) F.1 F.2.1 dX8_worksOf_0 (by decide) ?_
  refine lv_istore_n (lv' := [(2, .int (0 : Int32)), (0, .ref (gz g + a0)), (1, .int a1)]) F.1 F.2.1 dX8_worksOf_1 rfl hl (by decide) rfl (fun ls hl => ?_)
  obtain ⟨n2, h⟩ := h
  exact hl_2 n2 S _ _ _ a0 a1 (0 : Int32) hr_a0 hk_a0 h I (lv_sub hl [1, 2, 0] rfl)
theorem bdX8_worksAll_0 : ∀ q ∈ ([(0, .iconst 0, 1), (1, .istore_n 1, 1), (2, .iload_n 1, 1), (3, .bipush 8, 2), (5, .if_icmp .ge 14, 3), (8, .aload_n 0, 1), (9, .iload_n 1, 1), (10, .invokevirtual 130, 3), (13, .iinc 1 1, 3), (16, .goto (-14), 3), (19, .return_, 1)] : List (Nat × Jvm.ClassFile.Instr × Nat)), decode cX8_worksAll q.1 = .ok q.2 := chk_ok _ 0 _ rfl (by decide +kernel)
theorem dX8_worksAll_0 : decode cX8_worksAll 0 = .ok (.iconst 0, 1) := bdX8_worksAll_0 (0, .iconst 0, 1) (List.mem_of_getElem? (i := 0) rfl)
theorem dX8_worksAll_1 : decode cX8_worksAll 1 = .ok (.istore_n 1, 1) := bdX8_worksAll_0 (1, .istore_n 1, 1) (List.mem_of_getElem? (i := 1) rfl)
theorem dX8_worksAll_2 : decode cX8_worksAll 2 = .ok (.iload_n 1, 1) := bdX8_worksAll_0 (2, .iload_n 1, 1) (List.mem_of_getElem? (i := 2) rfl)
theorem dX8_worksAll_3 : decode cX8_worksAll 3 = .ok (.bipush 8, 2) := bdX8_worksAll_0 (3, .bipush 8, 2) (List.mem_of_getElem? (i := 3) rfl)
theorem dX8_worksAll_5 : decode cX8_worksAll 5 = .ok (.if_icmp .ge 14, 3) := bdX8_worksAll_0 (5, .if_icmp .ge 14, 3) (List.mem_of_getElem? (i := 4) rfl)
theorem dX8_worksAll_8 : decode cX8_worksAll 8 = .ok (.aload_n 0, 1) := bdX8_worksAll_0 (8, .aload_n 0, 1) (List.mem_of_getElem? (i := 5) rfl)
theorem dX8_worksAll_9 : decode cX8_worksAll 9 = .ok (.iload_n 1, 1) := bdX8_worksAll_0 (9, .iload_n 1, 1) (List.mem_of_getElem? (i := 6) rfl)
theorem dX8_worksAll_10 : decode cX8_worksAll 10 = .ok (.invokevirtual 130, 3) := bdX8_worksAll_0 (10, .invokevirtual 130, 3) (List.mem_of_getElem? (i := 7) rfl)
theorem dX8_worksAll_13 : decode cX8_worksAll 13 = .ok (.iinc 1 1, 3) := bdX8_worksAll_0 (13, .iinc 1 1, 3) (List.mem_of_getElem? (i := 8) rfl)
theorem dX8_worksAll_16 : decode cX8_worksAll 16 = .ok (.goto (-14), 3) := bdX8_worksAll_0 (16, .goto (-14), 3) (List.mem_of_getElem? (i := 9) rfl)
theorem dX8_worksAll_19 : decode cX8_worksAll 19 = .ok (.return_, 1) := bdX8_worksAll_0 (19, .return_, 1) (List.mem_of_getElem? (i := 10) rfl)
theorem kX8_130 : mthV RX8 130 8 yX8_worksOf prog_10_method_19_code 3 (Option.none : Option Jvm.ClassFile.FieldType) 1 := ⟨⟨⟨tw_1086, tw_67, tw_1089⟩, rfl, by decide +kernel⟩, tw_1088, tw_28, rfl⟩
def LX8_worksAll_2 (ln : Nat → Nat) (post : HC → Prop) : Nat → HC → Nat → Int32 → Prop
  | 0 => fun _ _ _ => False
  | n2 + 1 => fun S x0 x1 => if (8 : Int32) ≤ x1 then (post S) else (wpX8_worksOf ln S x0 x1 fun S => lt_ (x1 + (1 : Int32)) fun z1 => (LX8_worksAll_2 ln post n2) S x0 z1)
def wpX8_worksAll (ln : Nat → Nat) (S : HC) (a0 : Nat) (post : HC → Prop) : Prop := ∃ n2, LX8_worksAll_2 ln post n2 S a0 (0 : Int32)
abbrev rmX8_worksAll : Room := { frames := 6, cells := 0, slots := 0, locals := 144 }
set_option maxHeartbeats 4000000 in
set_option maxRecDepth 100000 in
theorem ctX8_worksAll {l : Launch} {g : GX} {N : Nat} {ln : Nat → Nat} {S : HC} {a0 : Nat} {post : HC → Prop} (hr_a0 : a0 < N) (hk_a0 : kd a0 = 8) (h : wpX8_worksAll ln S a0 post) : Met l yX8_worksAll (Cond.code yX8_worksAll prog_10_method_20_code 2 (Option.none : Option Jvm.ClassFile.FieldType) :: gtbl) rmX8_worksAll (va_Pc [.ref (gz g + a0)] (AtP g N ln S)) (QV g N ln post) 0 0 (gF g) := by
  refine m_of (by decide) (Nat.le_of_ble_eq_true rfl) ?_
  intro p e s m below meth c ls F hr I hl
  have hl : lv_has ls 2 [(0, .ref (gz g + a0))] := hl
  unfold wpX8_worksAll at h
  have hl_2 : ∀ n2 : Nat, ∀ (S : HC) (H : Heap) (locs : List Loc) (ls : Array Slot) (x0 : Nat) (x1 : Int32), x0 < N → kd x0 = 8 → LX8_worksAll_2 ln post n2 S x0 x1 → Inv g N ln S s H locs → lv_has ls 2 [(0, .ref (gz g + x0)), (1, .int x1)] → W p l e rmX8_worksAll s m ([.ref (gz g + a0)] : List Value).toArray below meth c H locs 0 0 (MQ below (QV g N ln post) ([.ref (gz g + a0)] : List Value).toArray s 0 0 (gF g)) (F0 m 2 ls []) := by
    intro n2
    induction n2 with
    | zero =>
      intro S H locs ls x0 x1 hr_x0 hk_x0 h I hl
      exact h.elim
    | succ n2 ih =>
      have hk2 := ih
      intro S H locs ls x0 x1 hr_x0 hk_x0 h I hl
      rw [LX8_worksAll_2] at h
      refine lv_iload_n F.1 F.2.1 dX8_worksAll_2 rfl (lv_at hl 1 rfl) ?_
      refine lv_bipush (v := 8) F.1 F.2.1 dX8_worksAll_3 (by decide) ?_
      refine r_icmp_ge (tgt := 19) F dX8_worksAll_5 (by decide) h (fun h => ?_) (fun h => ?_)
      · exact r_vreturn F I ⟨hr.1, hr.2.1, trivial⟩ h dX8_worksAll_19
      · refine lv_aload_n F.1 F.2.1 dX8_worksAll_8 rfl (lv_at hl 0 rfl) ?_
        refine lv_iload_n F.1 F.2.1 dX8_worksAll_9 rfl (lv_at hl 1 rfl) ?_
        refine g_V I (run_V (As := [.int x1]) (rest := []) F I hr_x0 hk_x0 (by decide) kX8_130 (ctX8_worksOf hr_x0 hk_x0 h) ⟨rfl, rfl⟩ ⟨Nat.le_of_ble_eq_true rfl, Nat.le_of_ble_eq_true rfl⟩ rfl hl.1 rfl (Nat.le_of_ble_eq_true rfl) ⟨Nat.le_of_ble_eq_true rfl, Nat.le_of_ble_eq_true rfl⟩ dX8_worksAll_10) (fun S H locs I h => ?_)
        obtain ⟨z1, e_z1, h⟩ := lt_x h
        refine lv_iinc (v := z1) (lv' := [(1, .int z1), (0, .ref (gz g + x0))]) F.1 F.2.1 dX8_worksAll_13 hl (k := 1) rfl (by rw [e_z1]; rfl) (by decide) rfl (fun ls hl => ?_)
        refine lv_goto (tgt := 2) F.1 F.2.1 dX8_worksAll_16 (by decide) ?_
        exact hk2 S _ _ _ x0 z1 hr_x0 hk_x0 h I (lv_sub hl [1, 0] rfl)
  refine lv_iconst (v := 0) F.1 F.2.1 dX8_worksAll_0 (by decide) ?_
  refine lv_istore_n (lv' := [(1, .int (0 : Int32)), (0, .ref (gz g + a0))]) F.1 F.2.1 dX8_worksAll_1 rfl hl (by decide) rfl (fun ls hl => ?_)
  obtain ⟨n2, h⟩ := h
  exact hl_2 n2 S _ _ _ a0 (0 : Int32) hr_a0 hk_a0 h I (lv_sub hl [1, 0] rfl)
theorem bdX8_borne_0 : ∀ q ∈ ([(0, .aload_n 0, 1), (1, .iload_n 1, 1), (2, .iconst 5, 1), (3, .invokevirtual 87, 3), (6, .iload_n 2, 1), (8, .iconst 1, 1), (9, .iand, 1), (10, .iconst 1, 1), (11, .if_icmp .ne 7, 3), (14, .iconst 0, 1), (15, .goto 14, 3), (18, .aload_n 0, 1), (19, .getfield 19, 3), (22, .bipush 8, 2), (24, .iload_n 1, 1), (25, .imul, 1), (26, .iload_n 2, 1), (27, .iadd, 1), (28, .iaload, 1), (29, .ireturn, 1)] : List (Nat × Jvm.ClassFile.Instr × Nat)), decode cX8_borne q.1 = .ok q.2 := chk_ok _ 0 _ rfl (by decide +kernel)
theorem dX8_borne_0 : decode cX8_borne 0 = .ok (.aload_n 0, 1) := bdX8_borne_0 (0, .aload_n 0, 1) (List.mem_of_getElem? (i := 0) rfl)
theorem dX8_borne_1 : decode cX8_borne 1 = .ok (.iload_n 1, 1) := bdX8_borne_0 (1, .iload_n 1, 1) (List.mem_of_getElem? (i := 1) rfl)
theorem dX8_borne_2 : decode cX8_borne 2 = .ok (.iconst 5, 1) := bdX8_borne_0 (2, .iconst 5, 1) (List.mem_of_getElem? (i := 2) rfl)
theorem dX8_borne_3 : decode cX8_borne 3 = .ok (.invokevirtual 87, 3) := bdX8_borne_0 (3, .invokevirtual 87, 3) (List.mem_of_getElem? (i := 3) rfl)
theorem dX8_borne_6 : decode cX8_borne 6 = .ok (.iload_n 2, 1) := bdX8_borne_0 (6, .iload_n 2, 1) (List.mem_of_getElem? (i := 4) rfl)
theorem dX8_borne_8 : decode cX8_borne 8 = .ok (.iconst 1, 1) := bdX8_borne_0 (8, .iconst 1, 1) (List.mem_of_getElem? (i := 5) rfl)
theorem dX8_borne_9 : decode cX8_borne 9 = .ok (.iand, 1) := bdX8_borne_0 (9, .iand, 1) (List.mem_of_getElem? (i := 6) rfl)
theorem dX8_borne_10 : decode cX8_borne 10 = .ok (.iconst 1, 1) := bdX8_borne_0 (10, .iconst 1, 1) (List.mem_of_getElem? (i := 7) rfl)
theorem dX8_borne_11 : decode cX8_borne 11 = .ok (.if_icmp .ne 7, 3) := bdX8_borne_0 (11, .if_icmp .ne 7, 3) (List.mem_of_getElem? (i := 8) rfl)
theorem dX8_borne_14 : decode cX8_borne 14 = .ok (.iconst 0, 1) := bdX8_borne_0 (14, .iconst 0, 1) (List.mem_of_getElem? (i := 9) rfl)
theorem dX8_borne_15 : decode cX8_borne 15 = .ok (.goto 14, 3) := bdX8_borne_0 (15, .goto 14, 3) (List.mem_of_getElem? (i := 10) rfl)
theorem dX8_borne_18 : decode cX8_borne 18 = .ok (.aload_n 0, 1) := bdX8_borne_0 (18, .aload_n 0, 1) (List.mem_of_getElem? (i := 11) rfl)
theorem dX8_borne_19 : decode cX8_borne 19 = .ok (.getfield 19, 3) := bdX8_borne_0 (19, .getfield 19, 3) (List.mem_of_getElem? (i := 12) rfl)
theorem dX8_borne_22 : decode cX8_borne 22 = .ok (.bipush 8, 2) := bdX8_borne_0 (22, .bipush 8, 2) (List.mem_of_getElem? (i := 13) rfl)
theorem dX8_borne_24 : decode cX8_borne 24 = .ok (.iload_n 1, 1) := bdX8_borne_0 (24, .iload_n 1, 1) (List.mem_of_getElem? (i := 14) rfl)
theorem dX8_borne_25 : decode cX8_borne 25 = .ok (.imul, 1) := bdX8_borne_0 (25, .imul, 1) (List.mem_of_getElem? (i := 15) rfl)
theorem dX8_borne_26 : decode cX8_borne 26 = .ok (.iload_n 2, 1) := bdX8_borne_0 (26, .iload_n 2, 1) (List.mem_of_getElem? (i := 16) rfl)
theorem dX8_borne_27 : decode cX8_borne 27 = .ok (.iadd, 1) := bdX8_borne_0 (27, .iadd, 1) (List.mem_of_getElem? (i := 17) rfl)
theorem dX8_borne_28 : decode cX8_borne 28 = .ok (.iaload, 1) := bdX8_borne_0 (28, .iaload, 1) (List.mem_of_getElem? (i := 18) rfl)
theorem dX8_borne_29 : decode cX8_borne 29 = .ok (.ireturn, 1) := bdX8_borne_0 (29, .ireturn, 1) (List.mem_of_getElem? (i := 19) rfl)
theorem dX8_borne_7 : decode cX8_borne 7 = .ok (.ishr, 1) := by decide +kernel
def wpX8_borne (ln : Nat → Nat) (S : HC) (a0 : Nat) (a1 : Int32) (a2 : Int32) (post : Int32 → HC → Prop) : Prop := wpX8_of ln S a0 a1 (5 : Int32) fun z1 S => lt_ (z1 >>> (a2 &&& 31)) fun z2 => lt_ (z2 &&& (1 : Int32)) fun z3 => if z3 = (1 : Int32) then (post (0 : Int32) S) else (dn_ (hR S a0 4) fun b4 => lt_ ((8 : Int32) * a1) fun z5 => lt_ (z5 + a2) fun z6 => al_ (ln b4) z6 (hI S b4) fun z7 => post z7 S)
abbrev rmX8_borne : Room := { frames := 1, cells := 0, slots := 0, locals := 22 }
set_option maxHeartbeats 4000000 in
set_option maxRecDepth 100000 in
theorem ctX8_borne {l : Launch} {g : GX} {N : Nat} {ln : Nat → Nat} {S : HC} {a0 : Nat} {a1 : Int32} {a2 : Int32} {post : Int32 → HC → Prop} (hr_a0 : a0 < N) (hk_a0 : kd a0 = 8) (h : wpX8_borne ln S a0 a1 a2 post) : Met l yX8_borne (Cond.code yX8_borne prog_10_method_21_code 3 (Option.some Jvm.ClassFile.FieldType.int) :: gtbl) rmX8_borne (va_Pc [.ref (gz g + a0), .int a1, .int a2] (AtP g N ln S)) (QI g N ln post) 0 0 (gF g) := by
  refine m_of (by decide) (Nat.le_of_ble_eq_true rfl) ?_
  intro p e s m below meth c ls F hr I hl
  have hl : lv_has ls 3 [(0, .ref (gz g + a0)), (1, .int a1), (2, .int a2)] := hl
  unfold wpX8_borne at h
  refine lv_aload_n F.1 F.2.1 dX8_borne_0 rfl (lv_at hl 0 rfl) ?_
  refine lv_iload_n F.1 F.2.1 dX8_borne_1 rfl (lv_at hl 1 rfl) ?_
  refine lv_iconst (v := 5) F.1 F.2.1 dX8_borne_2 (by decide) ?_
  refine g_I I (run_V (As := [.int a1, .int (5 : Int32)]) (rest := []) F I hr_a0 hk_a0 (by decide) kX8_87 (ctX8_of hr_a0 hk_a0 h) ⟨rfl, rfl⟩ ⟨Nat.le_of_ble_eq_true rfl, Nat.le_of_ble_eq_true rfl⟩ rfl hl.1 rfl (Nat.le_of_ble_eq_true rfl) ⟨Nat.le_of_ble_eq_true rfl, Nat.le_of_ble_eq_true rfl⟩ dX8_borne_3) (fun z1 S H locs I h => ?_)
  refine lv_iload_n F.1 F.2.1 dX8_borne_6 rfl (lv_at hl 2 rfl) ?_
  refine r_ishr F dX8_borne_7 h (fun z2 h => ?_)
  refine lv_iconst (v := 1) F.1 F.2.1 dX8_borne_8 (by decide) ?_
  refine r_iand F dX8_borne_9 h (fun z3 h => ?_)
  refine lv_iconst (v := 1) F.1 F.2.1 dX8_borne_10 (by decide) ?_
  refine r_icmp_ne (tgt := 18) F dX8_borne_11 (by decide) h (fun h => ?_) (fun h => ?_)
  · refine lv_aload_n F.1 F.2.1 dX8_borne_18 rfl (lv_at hl 0 rfl) ?_
    refine r_getN F I hr_a0 hk_a0 fX8_19 (f := 9) rfl (by decide) dX8_borne_19 h (fun b4 hr_b4 hk_b4 h => ?_)
    refine lv_bipush (v := 8) F.1 F.2.1 dX8_borne_22 (by decide) ?_
    refine lv_iload_n F.1 F.2.1 dX8_borne_24 rfl (lv_at hl 1 rfl) ?_
    refine r_imul F dX8_borne_25 h (fun z5 h => ?_)
    refine lv_iload_n F.1 F.2.1 dX8_borne_26 rfl (lv_at hl 2 rfl) ?_
    refine r_iadd F dX8_borne_27 h (fun z6 h => ?_)
    refine r_ald F I hr_b4 hk_b4 dX8_borne_28 h (fun z7 h => ?_)
    exact r_ireturn F I ⟨hr.1, hr.2.1, trivial⟩ h dX8_borne_29
  · refine lv_iconst (v := 0) F.1 F.2.1 dX8_borne_14 (by decide) ?_
    refine lv_goto (tgt := 29) F.1 F.2.1 dX8_borne_15 (by decide) ?_
    exact r_ireturn F I ⟨hr.1, hr.2.1, trivial⟩ h dX8_borne_29
theorem bdX8_bears_0 : ∀ q ∈ ([(0, .aload_n 0, 1), (1, .iload_n 1, 1), (2, .invokevirtual 83, 3), (5, .ifCond .eq 10, 3), (8, .iload_n 2, 1), (9, .invokestatic 95, 3), (12, .ifCond .ne 6, 3), (15, .ldc 98, 2), (17, .ireturn, 1), (18, .aload_n 0, 1), (19, .iload_n 2, 1), (20, .invokevirtual 130, 3), (23, .aload_n 0, 1), (24, .iload_n 1, 1), (25, .iload_n 2, 1), (26, .invokevirtual 134, 3), (29, .ireturn, 1)] : List (Nat × Jvm.ClassFile.Instr × Nat)), decode cX8_bears q.1 = .ok q.2 := chk_ok _ 0 _ rfl (by decide +kernel)
theorem dX8_bears_0 : decode cX8_bears 0 = .ok (.aload_n 0, 1) := bdX8_bears_0 (0, .aload_n 0, 1) (List.mem_of_getElem? (i := 0) rfl)
theorem dX8_bears_1 : decode cX8_bears 1 = .ok (.iload_n 1, 1) := bdX8_bears_0 (1, .iload_n 1, 1) (List.mem_of_getElem? (i := 1) rfl)
theorem dX8_bears_2 : decode cX8_bears 2 = .ok (.invokevirtual 83, 3) := bdX8_bears_0 (2, .invokevirtual 83, 3) (List.mem_of_getElem? (i := 2) rfl)
theorem dX8_bears_5 : decode cX8_bears 5 = .ok (.ifCond .eq 10, 3) := bdX8_bears_0 (5, .ifCond .eq 10, 3) (List.mem_of_getElem? (i := 3) rfl)
theorem dX8_bears_8 : decode cX8_bears 8 = .ok (.iload_n 2, 1) := bdX8_bears_0 (8, .iload_n 2, 1) (List.mem_of_getElem? (i := 4) rfl)
theorem dX8_bears_9 : decode cX8_bears 9 = .ok (.invokestatic 95, 3) := bdX8_bears_0 (9, .invokestatic 95, 3) (List.mem_of_getElem? (i := 5) rfl)
theorem dX8_bears_12 : decode cX8_bears 12 = .ok (.ifCond .ne 6, 3) := bdX8_bears_0 (12, .ifCond .ne 6, 3) (List.mem_of_getElem? (i := 6) rfl)
theorem dX8_bears_15 : decode cX8_bears 15 = .ok (.ldc 98, 2) := bdX8_bears_0 (15, .ldc 98, 2) (List.mem_of_getElem? (i := 7) rfl)
theorem dX8_bears_17 : decode cX8_bears 17 = .ok (.ireturn, 1) := bdX8_bears_0 (17, .ireturn, 1) (List.mem_of_getElem? (i := 8) rfl)
theorem dX8_bears_18 : decode cX8_bears 18 = .ok (.aload_n 0, 1) := bdX8_bears_0 (18, .aload_n 0, 1) (List.mem_of_getElem? (i := 9) rfl)
theorem dX8_bears_19 : decode cX8_bears 19 = .ok (.iload_n 2, 1) := bdX8_bears_0 (19, .iload_n 2, 1) (List.mem_of_getElem? (i := 10) rfl)
theorem dX8_bears_20 : decode cX8_bears 20 = .ok (.invokevirtual 130, 3) := bdX8_bears_0 (20, .invokevirtual 130, 3) (List.mem_of_getElem? (i := 11) rfl)
theorem dX8_bears_23 : decode cX8_bears 23 = .ok (.aload_n 0, 1) := bdX8_bears_0 (23, .aload_n 0, 1) (List.mem_of_getElem? (i := 12) rfl)
theorem dX8_bears_24 : decode cX8_bears 24 = .ok (.iload_n 1, 1) := bdX8_bears_0 (24, .iload_n 1, 1) (List.mem_of_getElem? (i := 13) rfl)
theorem dX8_bears_25 : decode cX8_bears 25 = .ok (.iload_n 2, 1) := bdX8_bears_0 (25, .iload_n 2, 1) (List.mem_of_getElem? (i := 14) rfl)
theorem dX8_bears_26 : decode cX8_bears 26 = .ok (.invokevirtual 134, 3) := bdX8_bears_0 (26, .invokevirtual 134, 3) (List.mem_of_getElem? (i := 15) rfl)
theorem dX8_bears_29 : decode cX8_bears 29 = .ok (.ireturn, 1) := bdX8_bears_0 (29, .ireturn, 1) (List.mem_of_getElem? (i := 16) rfl)
theorem kX8_134 : mthV RX8 134 8 yX8_borne prog_10_method_21_code 3 (Option.some Jvm.ClassFile.FieldType.int) 2 := ⟨⟨⟨tw_1116, tw_67, tw_1119⟩, rfl, by decide +kernel⟩, tw_1118, tw_34, rfl⟩
def BX8_bears_15 (ln : Nat → Nat) (post : Int32 → HC → Prop) (S : HC)  : Prop := post (-1000000001 : Int32) S
def wpX8_bears (ln : Nat → Nat) (S : HC) (a0 : Nat) (a1 : Int32) (a2 : Int32) (post : Int32 → HC → Prop) : Prop := wpX8_isOne ln S a0 a1 fun z1 S => if z1 = 0 then (BX8_bears_15 ln post S) else (wpX8_isCharge ln S a2 fun z2 S => if z2 = 0 then (BX8_bears_15 ln post S) else (wpX8_worksOf ln S a0 a2 fun S => wpX8_borne ln S a0 a1 a2 fun z3 S => post z3 S))
abbrev rmX8_bears : Room := { frames := 6, cells := 0, slots := 0, locals := 144 }
set_option maxHeartbeats 4000000 in
set_option maxRecDepth 100000 in
theorem ctX8_bears {l : Launch} {g : GX} {N : Nat} {ln : Nat → Nat} {S : HC} {a0 : Nat} {a1 : Int32} {a2 : Int32} {post : Int32 → HC → Prop} (hr_a0 : a0 < N) (hk_a0 : kd a0 = 8) (h : wpX8_bears ln S a0 a1 a2 post) : Met l yX8_bears (Cond.code yX8_bears prog_10_method_22_code 3 (Option.some Jvm.ClassFile.FieldType.int) :: gtbl) rmX8_bears (va_Pc [.ref (gz g + a0), .int a1, .int a2] (AtP g N ln S)) (QI g N ln post) 0 0 (gF g) := by
  refine m_of (by decide) (Nat.le_of_ble_eq_true rfl) ?_
  intro p e s m below meth c ls F hr I hl
  have hl : lv_has ls 3 [(0, .ref (gz g + a0)), (1, .int a1), (2, .int a2)] := hl
  unfold wpX8_bears at h
  have hj_15 : ∀ (S : HC) (H : Heap) (locs : List Loc) (ls : Array Slot), BX8_bears_15 ln post S  → Inv g N ln S s H locs → lv_has ls 3 [] → W p l e rmX8_bears s m ([.ref (gz g + a0), .int a1, .int a2] : List Value).toArray below meth c H locs 0 0 (MQ below (QI g N ln post) ([.ref (gz g + a0), .int a1, .int a2] : List Value).toArray s 0 0 (gF g)) (F0 m 15 ls []) := by
    intro S H locs ls h I hl
    unfold BX8_bears_15 at h
    refine lv_ldc F.1 F.2.1 F.2.2.2.1 (F.2.2.2.2 _ tw_1064) dX8_bears_15 ?_
    exact r_ireturn F I ⟨hr.1, hr.2.1, trivial⟩ h dX8_bears_17
  refine lv_aload_n F.1 F.2.1 dX8_bears_0 rfl (lv_at hl 0 rfl) ?_
  refine lv_iload_n F.1 F.2.1 dX8_bears_1 rfl (lv_at hl 1 rfl) ?_
  refine g_I I (run_V (As := [.int a1]) (rest := []) F I hr_a0 hk_a0 (by decide) kX8_83 (ctX8_isOne hr_a0 hk_a0 h) ⟨rfl, rfl⟩ ⟨Nat.le_of_ble_eq_true rfl, Nat.le_of_ble_eq_true rfl⟩ rfl hl.1 rfl (Nat.le_of_ble_eq_true rfl) ⟨Nat.le_of_ble_eq_true rfl, Nat.le_of_ble_eq_true rfl⟩ dX8_bears_2) (fun z1 S H locs I h => ?_)
  refine r_if_eq (tgt := 15) F dX8_bears_5 (by decide) h (fun h => ?_) (fun h => ?_)
  · exact hj_15 S _ _ _   h I (lv_sub hl [] rfl)
  · refine lv_iload_n F.1 F.2.1 dX8_bears_8 rfl (lv_at hl 2 rfl) ?_
    refine g_I I (run_S (As := [.int a2]) (rest := []) F I kX8_95 (ctX8_isCharge h) ⟨rfl, rfl⟩ ⟨Nat.le_of_ble_eq_true rfl, Nat.le_of_ble_eq_true rfl⟩ rfl hl.1 rfl (Nat.le_of_ble_eq_true rfl) ⟨Nat.le_of_ble_eq_true rfl, Nat.le_of_ble_eq_true rfl⟩ dX8_bears_9) (fun z2 S H locs I h => ?_)
    refine r_if_ne (tgt := 18) F dX8_bears_12 (by decide) h (fun h => ?_) (fun h => ?_)
    · refine lv_aload_n F.1 F.2.1 dX8_bears_18 rfl (lv_at hl 0 rfl) ?_
      refine lv_iload_n F.1 F.2.1 dX8_bears_19 rfl (lv_at hl 2 rfl) ?_
      refine g_V I (run_V (As := [.int a2]) (rest := []) F I hr_a0 hk_a0 (by decide) kX8_130 (ctX8_worksOf hr_a0 hk_a0 h) ⟨rfl, rfl⟩ ⟨Nat.le_of_ble_eq_true rfl, Nat.le_of_ble_eq_true rfl⟩ rfl hl.1 rfl (Nat.le_of_ble_eq_true rfl) ⟨Nat.le_of_ble_eq_true rfl, Nat.le_of_ble_eq_true rfl⟩ dX8_bears_20) (fun S H locs I h => ?_)
      refine lv_aload_n F.1 F.2.1 dX8_bears_23 rfl (lv_at hl 0 rfl) ?_
      refine lv_iload_n F.1 F.2.1 dX8_bears_24 rfl (lv_at hl 1 rfl) ?_
      refine lv_iload_n F.1 F.2.1 dX8_bears_25 rfl (lv_at hl 2 rfl) ?_
      refine g_I I (run_V (As := [.int a1, .int a2]) (rest := []) F I hr_a0 hk_a0 (by decide) kX8_134 (ctX8_borne hr_a0 hk_a0 h) ⟨rfl, rfl⟩ ⟨Nat.le_of_ble_eq_true rfl, Nat.le_of_ble_eq_true rfl⟩ rfl hl.1 rfl (Nat.le_of_ble_eq_true rfl) ⟨Nat.le_of_ble_eq_true rfl, Nat.le_of_ble_eq_true rfl⟩ dX8_bears_26) (fun z3 S H locs I h => ?_)
      exact r_ireturn F I ⟨hr.1, hr.2.1, trivial⟩ h dX8_bears_29
    · exact hj_15 S _ _ _   h I (lv_sub hl [] rfl)
theorem bdX8_isUnder_0 : ∀ q ∈ ([(0, .iload_n 1, 1), (1, .ifCond .eq 28, 3), (4, .iload_n 0, 1), (5, .iload_n 1, 1), (6, .if_icmp .eq 23, 3), (9, .iload_n 1, 1), (10, .iconst 1, 1), (11, .if_icmp .ne 8, 3), (14, .iload_n 0, 1), (15, .iconst 3, 1), (16, .if_icmp .eq 13, 3), (19, .iload_n 1, 1), (20, .iconst 2, 1), (21, .if_icmp .ne 12, 3), (24, .iload_n 0, 1), (25, .iconst 4, 1), (26, .if_icmp .ne 7, 3), (29, .iconst 1, 1), (30, .goto 4, 3), (33, .iconst 0, 1), (34, .ireturn, 1)] : List (Nat × Jvm.ClassFile.Instr × Nat)), decode cX8_isUnder q.1 = .ok q.2 := chk_ok _ 0 _ rfl (by decide +kernel)
theorem dX8_isUnder_0 : decode cX8_isUnder 0 = .ok (.iload_n 1, 1) := bdX8_isUnder_0 (0, .iload_n 1, 1) (List.mem_of_getElem? (i := 0) rfl)
theorem dX8_isUnder_1 : decode cX8_isUnder 1 = .ok (.ifCond .eq 28, 3) := bdX8_isUnder_0 (1, .ifCond .eq 28, 3) (List.mem_of_getElem? (i := 1) rfl)
theorem dX8_isUnder_4 : decode cX8_isUnder 4 = .ok (.iload_n 0, 1) := bdX8_isUnder_0 (4, .iload_n 0, 1) (List.mem_of_getElem? (i := 2) rfl)
theorem dX8_isUnder_5 : decode cX8_isUnder 5 = .ok (.iload_n 1, 1) := bdX8_isUnder_0 (5, .iload_n 1, 1) (List.mem_of_getElem? (i := 3) rfl)
theorem dX8_isUnder_6 : decode cX8_isUnder 6 = .ok (.if_icmp .eq 23, 3) := bdX8_isUnder_0 (6, .if_icmp .eq 23, 3) (List.mem_of_getElem? (i := 4) rfl)
theorem dX8_isUnder_9 : decode cX8_isUnder 9 = .ok (.iload_n 1, 1) := bdX8_isUnder_0 (9, .iload_n 1, 1) (List.mem_of_getElem? (i := 5) rfl)
theorem dX8_isUnder_10 : decode cX8_isUnder 10 = .ok (.iconst 1, 1) := bdX8_isUnder_0 (10, .iconst 1, 1) (List.mem_of_getElem? (i := 6) rfl)
theorem dX8_isUnder_11 : decode cX8_isUnder 11 = .ok (.if_icmp .ne 8, 3) := bdX8_isUnder_0 (11, .if_icmp .ne 8, 3) (List.mem_of_getElem? (i := 7) rfl)
theorem dX8_isUnder_14 : decode cX8_isUnder 14 = .ok (.iload_n 0, 1) := bdX8_isUnder_0 (14, .iload_n 0, 1) (List.mem_of_getElem? (i := 8) rfl)
theorem dX8_isUnder_15 : decode cX8_isUnder 15 = .ok (.iconst 3, 1) := bdX8_isUnder_0 (15, .iconst 3, 1) (List.mem_of_getElem? (i := 9) rfl)
theorem dX8_isUnder_16 : decode cX8_isUnder 16 = .ok (.if_icmp .eq 13, 3) := bdX8_isUnder_0 (16, .if_icmp .eq 13, 3) (List.mem_of_getElem? (i := 10) rfl)
theorem dX8_isUnder_19 : decode cX8_isUnder 19 = .ok (.iload_n 1, 1) := bdX8_isUnder_0 (19, .iload_n 1, 1) (List.mem_of_getElem? (i := 11) rfl)
theorem dX8_isUnder_20 : decode cX8_isUnder 20 = .ok (.iconst 2, 1) := bdX8_isUnder_0 (20, .iconst 2, 1) (List.mem_of_getElem? (i := 12) rfl)
theorem dX8_isUnder_21 : decode cX8_isUnder 21 = .ok (.if_icmp .ne 12, 3) := bdX8_isUnder_0 (21, .if_icmp .ne 12, 3) (List.mem_of_getElem? (i := 13) rfl)
theorem dX8_isUnder_24 : decode cX8_isUnder 24 = .ok (.iload_n 0, 1) := bdX8_isUnder_0 (24, .iload_n 0, 1) (List.mem_of_getElem? (i := 14) rfl)
theorem dX8_isUnder_25 : decode cX8_isUnder 25 = .ok (.iconst 4, 1) := bdX8_isUnder_0 (25, .iconst 4, 1) (List.mem_of_getElem? (i := 15) rfl)
theorem dX8_isUnder_26 : decode cX8_isUnder 26 = .ok (.if_icmp .ne 7, 3) := bdX8_isUnder_0 (26, .if_icmp .ne 7, 3) (List.mem_of_getElem? (i := 16) rfl)
theorem dX8_isUnder_29 : decode cX8_isUnder 29 = .ok (.iconst 1, 1) := bdX8_isUnder_0 (29, .iconst 1, 1) (List.mem_of_getElem? (i := 17) rfl)
theorem dX8_isUnder_30 : decode cX8_isUnder 30 = .ok (.goto 4, 3) := bdX8_isUnder_0 (30, .goto 4, 3) (List.mem_of_getElem? (i := 18) rfl)
theorem dX8_isUnder_33 : decode cX8_isUnder 33 = .ok (.iconst 0, 1) := bdX8_isUnder_0 (33, .iconst 0, 1) (List.mem_of_getElem? (i := 19) rfl)
theorem dX8_isUnder_34 : decode cX8_isUnder 34 = .ok (.ireturn, 1) := bdX8_isUnder_0 (34, .ireturn, 1) (List.mem_of_getElem? (i := 20) rfl)
def BX8_isUnder_33 (ln : Nat → Nat) (post : Int32 → HC → Prop) (S : HC)  : Prop := rb_ .boolean (0 : Int32) (post (0 : Int32) S)
def BX8_isUnder_29 (ln : Nat → Nat) (post : Int32 → HC → Prop) (S : HC)  : Prop := rb_ .boolean (1 : Int32) (post (1 : Int32) S)
def BX8_isUnder_19 (ln : Nat → Nat) (post : Int32 → HC → Prop) (S : HC) (x0 : Int32) (x1 : Int32) : Prop := if x1 = (2 : Int32) then (if x0 = (4 : Int32) then (BX8_isUnder_29 ln post S) else (BX8_isUnder_33 ln post S)) else (BX8_isUnder_33 ln post S)
def wpX8_isUnder (ln : Nat → Nat) (S : HC) (a0 : Int32) (a1 : Int32) (post : Int32 → HC → Prop) : Prop := if a1 = 0 then (BX8_isUnder_29 ln post S) else (if a0 = a1 then (BX8_isUnder_29 ln post S) else (if a1 = (1 : Int32) then (if a0 = (3 : Int32) then (BX8_isUnder_29 ln post S) else (BX8_isUnder_19 ln post S a0 a1)) else (BX8_isUnder_19 ln post S a0 a1)))
abbrev rmX8_isUnder : Room := { frames := 0, cells := 0, slots := 0, locals := 0 }
set_option maxHeartbeats 4000000 in
set_option maxRecDepth 100000 in
theorem ctX8_isUnder {l : Launch} {g : GX} {N : Nat} {ln : Nat → Nat} {S : HC} {a0 : Int32} {a1 : Int32} {post : Int32 → HC → Prop} (h : wpX8_isUnder ln S a0 a1 post) : Met l yX8_isUnder (Cond.code yX8_isUnder prog_10_method_23_code 2 (Option.some Jvm.ClassFile.FieldType.boolean) :: gtbl) rmX8_isUnder (va_Pc [.int a0, .int a1] (AtP g N ln S)) (QI g N ln post) 0 0 (gF g) := by
  refine m_of (by decide) (Nat.le_of_ble_eq_true rfl) ?_
  intro p e s m below meth c ls F hr I hl
  have hl : lv_has ls 2 [(0, .int a0), (1, .int a1)] := hl
  unfold wpX8_isUnder at h
  have hj_33 : ∀ (S : HC) (H : Heap) (locs : List Loc) (ls : Array Slot), BX8_isUnder_33 ln post S  → Inv g N ln S s H locs → lv_has ls 2 [] → W p l e rmX8_isUnder s m ([.int a0, .int a1] : List Value).toArray below meth c H locs 0 0 (MQ below (QI g N ln post) ([.int a0, .int a1] : List Value).toArray s 0 0 (gF g)) (F0 m 33 ls []) := by
    intro S H locs ls h I hl
    unfold BX8_isUnder_33 at h
    refine lv_iconst (v := 0) F.1 F.2.1 dX8_isUnder_33 (by decide) ?_
    exact r_zreturn F I ⟨hr.1, hr.2.1, trivial⟩ h dX8_isUnder_34
  have hj_29 : ∀ (S : HC) (H : Heap) (locs : List Loc) (ls : Array Slot), BX8_isUnder_29 ln post S  → Inv g N ln S s H locs → lv_has ls 2 [] → W p l e rmX8_isUnder s m ([.int a0, .int a1] : List Value).toArray below meth c H locs 0 0 (MQ below (QI g N ln post) ([.int a0, .int a1] : List Value).toArray s 0 0 (gF g)) (F0 m 29 ls []) := by
    intro S H locs ls h I hl
    unfold BX8_isUnder_29 at h
    refine lv_iconst (v := 1) F.1 F.2.1 dX8_isUnder_29 (by decide) ?_
    refine lv_goto (tgt := 34) F.1 F.2.1 dX8_isUnder_30 (by decide) ?_
    exact r_zreturn F I ⟨hr.1, hr.2.1, trivial⟩ h dX8_isUnder_34
  have hj_19 : ∀ (S : HC) (H : Heap) (locs : List Loc) (ls : Array Slot) (x0 : Int32) (x1 : Int32), BX8_isUnder_19 ln post S x0 x1 → Inv g N ln S s H locs → lv_has ls 2 [(0, .int x0), (1, .int x1)] → W p l e rmX8_isUnder s m ([.int a0, .int a1] : List Value).toArray below meth c H locs 0 0 (MQ below (QI g N ln post) ([.int a0, .int a1] : List Value).toArray s 0 0 (gF g)) (F0 m 19 ls []) := by
    intro S H locs ls x0 x1 h I hl
    unfold BX8_isUnder_19 at h
    refine lv_iload_n F.1 F.2.1 dX8_isUnder_19 rfl (lv_at hl 1 rfl) ?_
    refine lv_iconst (v := 2) F.1 F.2.1 dX8_isUnder_20 (by decide) ?_
    refine r_icmp_ne (tgt := 33) F dX8_isUnder_21 (by decide) h (fun h => ?_) (fun h => ?_)
    · exact hj_33 S _ _ _   h I (lv_sub hl [] rfl)
    · refine lv_iload_n F.1 F.2.1 dX8_isUnder_24 rfl (lv_at hl 0 rfl) ?_
      refine lv_iconst (v := 4) F.1 F.2.1 dX8_isUnder_25 (by decide) ?_
      refine r_icmp_ne (tgt := 33) F dX8_isUnder_26 (by decide) h (fun h => ?_) (fun h => ?_)
      · exact hj_33 S _ _ _   h I (lv_sub hl [] rfl)
      · exact hj_29 S _ _ _   h I (lv_sub hl [] rfl)
  refine lv_iload_n F.1 F.2.1 dX8_isUnder_0 rfl (lv_at hl 1 rfl) ?_
  refine r_if_eq (tgt := 29) F dX8_isUnder_1 (by decide) h (fun h => ?_) (fun h => ?_)
  · exact hj_29 S _ _ _   h I (lv_sub hl [] rfl)
  · refine lv_iload_n F.1 F.2.1 dX8_isUnder_4 rfl (lv_at hl 0 rfl) ?_
    refine lv_iload_n F.1 F.2.1 dX8_isUnder_5 rfl (lv_at hl 1 rfl) ?_
    refine r_icmp_eq (tgt := 29) F dX8_isUnder_6 (by decide) h (fun h => ?_) (fun h => ?_)
    · exact hj_29 S _ _ _   h I (lv_sub hl [] rfl)
    · refine lv_iload_n F.1 F.2.1 dX8_isUnder_9 rfl (lv_at hl 1 rfl) ?_
      refine lv_iconst (v := 1) F.1 F.2.1 dX8_isUnder_10 (by decide) ?_
      refine r_icmp_ne (tgt := 19) F dX8_isUnder_11 (by decide) h (fun h => ?_) (fun h => ?_)
      · exact hj_19 S _ _ _ a0 a1  h I (lv_sub hl [0, 1] rfl)
      · refine lv_iload_n F.1 F.2.1 dX8_isUnder_14 rfl (lv_at hl 0 rfl) ?_
        refine lv_iconst (v := 3) F.1 F.2.1 dX8_isUnder_15 (by decide) ?_
        refine r_icmp_eq (tgt := 29) F dX8_isUnder_16 (by decide) h (fun h => ?_) (fun h => ?_)
        · exact hj_29 S _ _ _   h I (lv_sub hl [] rfl)
        · exact hj_19 S _ _ _ a0 a1  h I (lv_sub hl [0, 1] rfl)
theorem bdX8_as_0 : ∀ q ∈ ([(0, .aload_n 0, 1), (1, .iload_n 1, 1), (2, .invokevirtual 83, 3), (5, .ifCond .eq 12, 3), (8, .iload_n 2, 1), (9, .iconst 0, 1), (10, .iconst 5, 1), (11, .invokestatic 79, 3), (14, .ifCond .ne 6, 3), (17, .ldc 98, 2), (19, .ireturn, 1), (20, .aload_n 0, 1), (21, .iload_n 1, 1), (22, .iconst 0, 1), (23, .invokevirtual 87, 3), (26, .iload_n 2, 1), (27, .invokestatic 137, 3), (30, .ifCond .eq 12, 3), (33, .aload_n 0, 1), (34, .iload_n 1, 1), (35, .iconst 4, 1), (36, .invokevirtual 87, 3), (39, .goto 5, 3), (42, .ldc 140, 2), (44, .ireturn, 1)] : List (Nat × Jvm.ClassFile.Instr × Nat)), decode cX8_as q.1 = .ok q.2 := chk_ok _ 0 _ rfl (by decide +kernel)
theorem dX8_as_0 : decode cX8_as 0 = .ok (.aload_n 0, 1) := bdX8_as_0 (0, .aload_n 0, 1) (List.mem_of_getElem? (i := 0) rfl)
theorem dX8_as_1 : decode cX8_as 1 = .ok (.iload_n 1, 1) := bdX8_as_0 (1, .iload_n 1, 1) (List.mem_of_getElem? (i := 1) rfl)
theorem dX8_as_2 : decode cX8_as 2 = .ok (.invokevirtual 83, 3) := bdX8_as_0 (2, .invokevirtual 83, 3) (List.mem_of_getElem? (i := 2) rfl)
theorem dX8_as_5 : decode cX8_as 5 = .ok (.ifCond .eq 12, 3) := bdX8_as_0 (5, .ifCond .eq 12, 3) (List.mem_of_getElem? (i := 3) rfl)
theorem dX8_as_8 : decode cX8_as 8 = .ok (.iload_n 2, 1) := bdX8_as_0 (8, .iload_n 2, 1) (List.mem_of_getElem? (i := 4) rfl)
theorem dX8_as_9 : decode cX8_as 9 = .ok (.iconst 0, 1) := bdX8_as_0 (9, .iconst 0, 1) (List.mem_of_getElem? (i := 5) rfl)
theorem dX8_as_10 : decode cX8_as 10 = .ok (.iconst 5, 1) := bdX8_as_0 (10, .iconst 5, 1) (List.mem_of_getElem? (i := 6) rfl)
theorem dX8_as_11 : decode cX8_as 11 = .ok (.invokestatic 79, 3) := bdX8_as_0 (11, .invokestatic 79, 3) (List.mem_of_getElem? (i := 7) rfl)
theorem dX8_as_14 : decode cX8_as 14 = .ok (.ifCond .ne 6, 3) := bdX8_as_0 (14, .ifCond .ne 6, 3) (List.mem_of_getElem? (i := 8) rfl)
theorem dX8_as_17 : decode cX8_as 17 = .ok (.ldc 98, 2) := bdX8_as_0 (17, .ldc 98, 2) (List.mem_of_getElem? (i := 9) rfl)
theorem dX8_as_19 : decode cX8_as 19 = .ok (.ireturn, 1) := bdX8_as_0 (19, .ireturn, 1) (List.mem_of_getElem? (i := 10) rfl)
theorem dX8_as_20 : decode cX8_as 20 = .ok (.aload_n 0, 1) := bdX8_as_0 (20, .aload_n 0, 1) (List.mem_of_getElem? (i := 11) rfl)
theorem dX8_as_21 : decode cX8_as 21 = .ok (.iload_n 1, 1) := bdX8_as_0 (21, .iload_n 1, 1) (List.mem_of_getElem? (i := 12) rfl)
theorem dX8_as_22 : decode cX8_as 22 = .ok (.iconst 0, 1) := bdX8_as_0 (22, .iconst 0, 1) (List.mem_of_getElem? (i := 13) rfl)
theorem dX8_as_23 : decode cX8_as 23 = .ok (.invokevirtual 87, 3) := bdX8_as_0 (23, .invokevirtual 87, 3) (List.mem_of_getElem? (i := 14) rfl)
theorem dX8_as_26 : decode cX8_as 26 = .ok (.iload_n 2, 1) := bdX8_as_0 (26, .iload_n 2, 1) (List.mem_of_getElem? (i := 15) rfl)
theorem dX8_as_27 : decode cX8_as 27 = .ok (.invokestatic 137, 3) := bdX8_as_0 (27, .invokestatic 137, 3) (List.mem_of_getElem? (i := 16) rfl)
theorem dX8_as_30 : decode cX8_as 30 = .ok (.ifCond .eq 12, 3) := bdX8_as_0 (30, .ifCond .eq 12, 3) (List.mem_of_getElem? (i := 17) rfl)
theorem dX8_as_33 : decode cX8_as 33 = .ok (.aload_n 0, 1) := bdX8_as_0 (33, .aload_n 0, 1) (List.mem_of_getElem? (i := 18) rfl)
theorem dX8_as_34 : decode cX8_as 34 = .ok (.iload_n 1, 1) := bdX8_as_0 (34, .iload_n 1, 1) (List.mem_of_getElem? (i := 19) rfl)
theorem dX8_as_35 : decode cX8_as 35 = .ok (.iconst 4, 1) := bdX8_as_0 (35, .iconst 4, 1) (List.mem_of_getElem? (i := 20) rfl)
theorem dX8_as_36 : decode cX8_as 36 = .ok (.invokevirtual 87, 3) := bdX8_as_0 (36, .invokevirtual 87, 3) (List.mem_of_getElem? (i := 21) rfl)
theorem dX8_as_39 : decode cX8_as 39 = .ok (.goto 5, 3) := bdX8_as_0 (39, .goto 5, 3) (List.mem_of_getElem? (i := 22) rfl)
theorem dX8_as_42 : decode cX8_as 42 = .ok (.ldc 140, 2) := bdX8_as_0 (42, .ldc 140, 2) (List.mem_of_getElem? (i := 23) rfl)
theorem dX8_as_44 : decode cX8_as 44 = .ok (.ireturn, 1) := bdX8_as_0 (44, .ireturn, 1) (List.mem_of_getElem? (i := 24) rfl)
theorem kX8_137 : mthS RX8 137 yX8_isUnder prog_10_method_23_code 2 (Option.some Jvm.ClassFile.FieldType.boolean) 2 := ⟨⟨⟨tw_1124, tw_67, tw_1126⟩, rfl, by decide +kernel⟩, tw_1125⟩
def BX8_as_17 (ln : Nat → Nat) (post : Int32 → HC → Prop) (S : HC)  : Prop := post (-1000000001 : Int32) S
def wpX8_as (ln : Nat → Nat) (S : HC) (a0 : Nat) (a1 : Int32) (a2 : Int32) (post : Int32 → HC → Prop) : Prop := wpX8_isOne ln S a0 a1 fun z1 S => if z1 = 0 then (BX8_as_17 ln post S) else (wpX8_in ln S a2 (0 : Int32) (5 : Int32) fun z2 S => if z2 = 0 then (BX8_as_17 ln post S) else (wpX8_of ln S a0 a1 (0 : Int32) fun z3 S => wpX8_isUnder ln S z3 a2 fun z4 S => if z4 = 0 then (post (-1000000012 : Int32) S) else (wpX8_of ln S a0 a1 (4 : Int32) fun z5 S => post z5 S)))
abbrev rmX8_as : Room := { frames := 2, cells := 0, slots := 0, locals := 43 }
set_option maxHeartbeats 4000000 in
set_option maxRecDepth 100000 in
theorem ctX8_as {l : Launch} {g : GX} {N : Nat} {ln : Nat → Nat} {S : HC} {a0 : Nat} {a1 : Int32} {a2 : Int32} {post : Int32 → HC → Prop} (hr_a0 : a0 < N) (hk_a0 : kd a0 = 8) (h : wpX8_as ln S a0 a1 a2 post) : Met l yX8_as (Cond.code yX8_as prog_10_method_24_code 3 (Option.some Jvm.ClassFile.FieldType.int) :: gtbl) rmX8_as (va_Pc [.ref (gz g + a0), .int a1, .int a2] (AtP g N ln S)) (QI g N ln post) 0 0 (gF g) := by
  refine m_of (by decide) (Nat.le_of_ble_eq_true rfl) ?_
  intro p e s m below meth c ls F hr I hl
  have hl : lv_has ls 3 [(0, .ref (gz g + a0)), (1, .int a1), (2, .int a2)] := hl
  unfold wpX8_as at h
  have hj_17 : ∀ (S : HC) (H : Heap) (locs : List Loc) (ls : Array Slot), BX8_as_17 ln post S  → Inv g N ln S s H locs → lv_has ls 3 [] → W p l e rmX8_as s m ([.ref (gz g + a0), .int a1, .int a2] : List Value).toArray below meth c H locs 0 0 (MQ below (QI g N ln post) ([.ref (gz g + a0), .int a1, .int a2] : List Value).toArray s 0 0 (gF g)) (F0 m 17 ls []) := by
    intro S H locs ls h I hl
    unfold BX8_as_17 at h
    refine lv_ldc F.1 F.2.1 F.2.2.2.1 (F.2.2.2.2 _ tw_1064) dX8_as_17 ?_
    exact r_ireturn F I ⟨hr.1, hr.2.1, trivial⟩ h dX8_as_19
  refine lv_aload_n F.1 F.2.1 dX8_as_0 rfl (lv_at hl 0 rfl) ?_
  refine lv_iload_n F.1 F.2.1 dX8_as_1 rfl (lv_at hl 1 rfl) ?_
  refine g_I I (run_V (As := [.int a1]) (rest := []) F I hr_a0 hk_a0 (by decide) kX8_83 (ctX8_isOne hr_a0 hk_a0 h) ⟨rfl, rfl⟩ ⟨Nat.le_of_ble_eq_true rfl, Nat.le_of_ble_eq_true rfl⟩ rfl hl.1 rfl (Nat.le_of_ble_eq_true rfl) ⟨Nat.le_of_ble_eq_true rfl, Nat.le_of_ble_eq_true rfl⟩ dX8_as_2) (fun z1 S H locs I h => ?_)
  refine r_if_eq (tgt := 17) F dX8_as_5 (by decide) h (fun h => ?_) (fun h => ?_)
  · exact hj_17 S _ _ _   h I (lv_sub hl [] rfl)
  · refine lv_iload_n F.1 F.2.1 dX8_as_8 rfl (lv_at hl 2 rfl) ?_
    refine lv_iconst (v := 0) F.1 F.2.1 dX8_as_9 (by decide) ?_
    refine lv_iconst (v := 5) F.1 F.2.1 dX8_as_10 (by decide) ?_
    refine g_I I (run_S (As := [.int a2, .int (0 : Int32), .int (5 : Int32)]) (rest := []) F I kX8_79 (ctX8_in h) ⟨rfl, rfl⟩ ⟨Nat.le_of_ble_eq_true rfl, Nat.le_of_ble_eq_true rfl⟩ rfl hl.1 rfl (Nat.le_of_ble_eq_true rfl) ⟨Nat.le_of_ble_eq_true rfl, Nat.le_of_ble_eq_true rfl⟩ dX8_as_11) (fun z2 S H locs I h => ?_)
    refine r_if_ne (tgt := 20) F dX8_as_14 (by decide) h (fun h => ?_) (fun h => ?_)
    · refine lv_aload_n F.1 F.2.1 dX8_as_20 rfl (lv_at hl 0 rfl) ?_
      refine lv_iload_n F.1 F.2.1 dX8_as_21 rfl (lv_at hl 1 rfl) ?_
      refine lv_iconst (v := 0) F.1 F.2.1 dX8_as_22 (by decide) ?_
      refine g_I I (run_V (As := [.int a1, .int (0 : Int32)]) (rest := []) F I hr_a0 hk_a0 (by decide) kX8_87 (ctX8_of hr_a0 hk_a0 h) ⟨rfl, rfl⟩ ⟨Nat.le_of_ble_eq_true rfl, Nat.le_of_ble_eq_true rfl⟩ rfl hl.1 rfl (Nat.le_of_ble_eq_true rfl) ⟨Nat.le_of_ble_eq_true rfl, Nat.le_of_ble_eq_true rfl⟩ dX8_as_23) (fun z3 S H locs I h => ?_)
      refine lv_iload_n F.1 F.2.1 dX8_as_26 rfl (lv_at hl 2 rfl) ?_
      refine g_I I (run_S (As := [.int z3, .int a2]) (rest := []) F I kX8_137 (ctX8_isUnder h) ⟨rfl, rfl⟩ ⟨Nat.le_of_ble_eq_true rfl, Nat.le_of_ble_eq_true rfl⟩ rfl hl.1 rfl (Nat.le_of_ble_eq_true rfl) ⟨Nat.le_of_ble_eq_true rfl, Nat.le_of_ble_eq_true rfl⟩ dX8_as_27) (fun z4 S H locs I h => ?_)
      refine r_if_eq (tgt := 42) F dX8_as_30 (by decide) h (fun h => ?_) (fun h => ?_)
      · refine lv_ldc F.1 F.2.1 F.2.2.2.1 (F.2.2.2.2 _ tw_1127) dX8_as_42 ?_
        exact r_ireturn F I ⟨hr.1, hr.2.1, trivial⟩ h dX8_as_44
      · refine lv_aload_n F.1 F.2.1 dX8_as_33 rfl (lv_at hl 0 rfl) ?_
        refine lv_iload_n F.1 F.2.1 dX8_as_34 rfl (lv_at hl 1 rfl) ?_
        refine lv_iconst (v := 4) F.1 F.2.1 dX8_as_35 (by decide) ?_
        refine g_I I (run_V (As := [.int a1, .int (4 : Int32)]) (rest := []) F I hr_a0 hk_a0 (by decide) kX8_87 (ctX8_of hr_a0 hk_a0 h) ⟨rfl, rfl⟩ ⟨Nat.le_of_ble_eq_true rfl, Nat.le_of_ble_eq_true rfl⟩ rfl hl.1 rfl (Nat.le_of_ble_eq_true rfl) ⟨Nat.le_of_ble_eq_true rfl, Nat.le_of_ble_eq_true rfl⟩ dX8_as_36) (fun z5 S H locs I h => ?_)
        refine lv_goto (tgt := 44) F.1 F.2.1 dX8_as_39 (by decide) ?_
        exact r_ireturn F I ⟨hr.1, hr.2.1, trivial⟩ h dX8_as_44
    · exact hj_17 S _ _ _   h I (lv_sub hl [] rfl)
theorem bdX8_turns_0 : ∀ q ∈ ([(0, .aload_n 0, 1), (1, .iload_n 1, 1), (2, .invokevirtual 83, 3), (5, .ifCond .eq 26, 3), (8, .iload_n 2, 1), (9, .iconst 0, 1), (10, .iconst 5, 1), (11, .invokestatic 79, 3), (14, .ifCond .eq 17, 3), (17, .aload_n 0, 1), (18, .iconst 5, 1), (19, .bipush 6, 2), (21, .iload_n 1, 1), (22, .imul, 1), (23, .iadd, 1), (24, .iload_n 2, 1), (25, .invokevirtual 141, 3), (28, .goto 5, 3), (31, .ldc 98, 2), (33, .ireturn, 1)] : List (Nat × Jvm.ClassFile.Instr × Nat)), decode cX8_turns q.1 = .ok q.2 := chk_ok _ 0 _ rfl (by decide +kernel)
theorem dX8_turns_0 : decode cX8_turns 0 = .ok (.aload_n 0, 1) := bdX8_turns_0 (0, .aload_n 0, 1) (List.mem_of_getElem? (i := 0) rfl)
theorem dX8_turns_1 : decode cX8_turns 1 = .ok (.iload_n 1, 1) := bdX8_turns_0 (1, .iload_n 1, 1) (List.mem_of_getElem? (i := 1) rfl)
theorem dX8_turns_2 : decode cX8_turns 2 = .ok (.invokevirtual 83, 3) := bdX8_turns_0 (2, .invokevirtual 83, 3) (List.mem_of_getElem? (i := 2) rfl)
theorem dX8_turns_5 : decode cX8_turns 5 = .ok (.ifCond .eq 26, 3) := bdX8_turns_0 (5, .ifCond .eq 26, 3) (List.mem_of_getElem? (i := 3) rfl)
theorem dX8_turns_8 : decode cX8_turns 8 = .ok (.iload_n 2, 1) := bdX8_turns_0 (8, .iload_n 2, 1) (List.mem_of_getElem? (i := 4) rfl)
theorem dX8_turns_9 : decode cX8_turns 9 = .ok (.iconst 0, 1) := bdX8_turns_0 (9, .iconst 0, 1) (List.mem_of_getElem? (i := 5) rfl)
theorem dX8_turns_10 : decode cX8_turns 10 = .ok (.iconst 5, 1) := bdX8_turns_0 (10, .iconst 5, 1) (List.mem_of_getElem? (i := 6) rfl)
theorem dX8_turns_11 : decode cX8_turns 11 = .ok (.invokestatic 79, 3) := bdX8_turns_0 (11, .invokestatic 79, 3) (List.mem_of_getElem? (i := 7) rfl)
theorem dX8_turns_14 : decode cX8_turns 14 = .ok (.ifCond .eq 17, 3) := bdX8_turns_0 (14, .ifCond .eq 17, 3) (List.mem_of_getElem? (i := 8) rfl)
theorem dX8_turns_17 : decode cX8_turns 17 = .ok (.aload_n 0, 1) := bdX8_turns_0 (17, .aload_n 0, 1) (List.mem_of_getElem? (i := 9) rfl)
theorem dX8_turns_18 : decode cX8_turns 18 = .ok (.iconst 5, 1) := bdX8_turns_0 (18, .iconst 5, 1) (List.mem_of_getElem? (i := 10) rfl)
theorem dX8_turns_19 : decode cX8_turns 19 = .ok (.bipush 6, 2) := bdX8_turns_0 (19, .bipush 6, 2) (List.mem_of_getElem? (i := 11) rfl)
theorem dX8_turns_21 : decode cX8_turns 21 = .ok (.iload_n 1, 1) := bdX8_turns_0 (21, .iload_n 1, 1) (List.mem_of_getElem? (i := 12) rfl)
theorem dX8_turns_22 : decode cX8_turns 22 = .ok (.imul, 1) := bdX8_turns_0 (22, .imul, 1) (List.mem_of_getElem? (i := 13) rfl)
theorem dX8_turns_23 : decode cX8_turns 23 = .ok (.iadd, 1) := bdX8_turns_0 (23, .iadd, 1) (List.mem_of_getElem? (i := 14) rfl)
theorem dX8_turns_24 : decode cX8_turns 24 = .ok (.iload_n 2, 1) := bdX8_turns_0 (24, .iload_n 2, 1) (List.mem_of_getElem? (i := 15) rfl)
theorem dX8_turns_25 : decode cX8_turns 25 = .ok (.invokevirtual 141, 3) := bdX8_turns_0 (25, .invokevirtual 141, 3) (List.mem_of_getElem? (i := 16) rfl)
theorem dX8_turns_28 : decode cX8_turns 28 = .ok (.goto 5, 3) := bdX8_turns_0 (28, .goto 5, 3) (List.mem_of_getElem? (i := 17) rfl)
theorem dX8_turns_31 : decode cX8_turns 31 = .ok (.ldc 98, 2) := bdX8_turns_0 (31, .ldc 98, 2) (List.mem_of_getElem? (i := 18) rfl)
theorem dX8_turns_33 : decode cX8_turns 33 = .ok (.ireturn, 1) := bdX8_turns_0 (33, .ireturn, 1) (List.mem_of_getElem? (i := 19) rfl)
theorem kX8_141 : mthV RX8 141 8 yX8_becomes prog_10_method_9_code 4 (Option.some Jvm.ClassFile.FieldType.int) 2 := ⟨⟨⟨tw_1132, tw_67, tw_1135⟩, rfl, by decide +kernel⟩, tw_1134, tw_35, rfl⟩
def BX8_turns_31 (ln : Nat → Nat) (post : Int32 → HC → Prop) (S : HC)  : Prop := post (-1000000001 : Int32) S
def wpX8_turns (ln : Nat → Nat) (S : HC) (a0 : Nat) (a1 : Int32) (a2 : Int32) (post : Int32 → HC → Prop) : Prop := wpX8_isOne ln S a0 a1 fun z1 S => if z1 = 0 then (BX8_turns_31 ln post S) else (wpX8_in ln S a2 (0 : Int32) (5 : Int32) fun z2 S => if z2 = 0 then (BX8_turns_31 ln post S) else (lt_ ((6 : Int32) * a1) fun z3 => lt_ ((5 : Int32) + z3) fun z4 => wpX8_becomes ln S a0 z4 a2 fun z5 S => post z5 S))
abbrev rmX8_turns : Room := { frames := 2, cells := 0, slots := 0, locals := 43 }
set_option maxHeartbeats 4000000 in
set_option maxRecDepth 100000 in
theorem ctX8_turns {l : Launch} {g : GX} {N : Nat} {ln : Nat → Nat} {S : HC} {a0 : Nat} {a1 : Int32} {a2 : Int32} {post : Int32 → HC → Prop} (hr_a0 : a0 < N) (hk_a0 : kd a0 = 8) (h : wpX8_turns ln S a0 a1 a2 post) : Met l yX8_turns (Cond.code yX8_turns prog_10_method_25_code 3 (Option.some Jvm.ClassFile.FieldType.int) :: gtbl) rmX8_turns (va_Pc [.ref (gz g + a0), .int a1, .int a2] (AtP g N ln S)) (QI g N ln post) 0 0 (gF g) := by
  refine m_of (by decide) (Nat.le_of_ble_eq_true rfl) ?_
  intro p e s m below meth c ls F hr I hl
  have hl : lv_has ls 3 [(0, .ref (gz g + a0)), (1, .int a1), (2, .int a2)] := hl
  unfold wpX8_turns at h
  have hj_31 : ∀ (S : HC) (H : Heap) (locs : List Loc) (ls : Array Slot), BX8_turns_31 ln post S  → Inv g N ln S s H locs → lv_has ls 3 [] → W p l e rmX8_turns s m ([.ref (gz g + a0), .int a1, .int a2] : List Value).toArray below meth c H locs 0 0 (MQ below (QI g N ln post) ([.ref (gz g + a0), .int a1, .int a2] : List Value).toArray s 0 0 (gF g)) (F0 m 31 ls []) := by
    intro S H locs ls h I hl
    unfold BX8_turns_31 at h
    refine lv_ldc F.1 F.2.1 F.2.2.2.1 (F.2.2.2.2 _ tw_1064) dX8_turns_31 ?_
    exact r_ireturn F I ⟨hr.1, hr.2.1, trivial⟩ h dX8_turns_33
  refine lv_aload_n F.1 F.2.1 dX8_turns_0 rfl (lv_at hl 0 rfl) ?_
  refine lv_iload_n F.1 F.2.1 dX8_turns_1 rfl (lv_at hl 1 rfl) ?_
  refine g_I I (run_V (As := [.int a1]) (rest := []) F I hr_a0 hk_a0 (by decide) kX8_83 (ctX8_isOne hr_a0 hk_a0 h) ⟨rfl, rfl⟩ ⟨Nat.le_of_ble_eq_true rfl, Nat.le_of_ble_eq_true rfl⟩ rfl hl.1 rfl (Nat.le_of_ble_eq_true rfl) ⟨Nat.le_of_ble_eq_true rfl, Nat.le_of_ble_eq_true rfl⟩ dX8_turns_2) (fun z1 S H locs I h => ?_)
  refine r_if_eq (tgt := 31) F dX8_turns_5 (by decide) h (fun h => ?_) (fun h => ?_)
  · exact hj_31 S _ _ _   h I (lv_sub hl [] rfl)
  · refine lv_iload_n F.1 F.2.1 dX8_turns_8 rfl (lv_at hl 2 rfl) ?_
    refine lv_iconst (v := 0) F.1 F.2.1 dX8_turns_9 (by decide) ?_
    refine lv_iconst (v := 5) F.1 F.2.1 dX8_turns_10 (by decide) ?_
    refine g_I I (run_S (As := [.int a2, .int (0 : Int32), .int (5 : Int32)]) (rest := []) F I kX8_79 (ctX8_in h) ⟨rfl, rfl⟩ ⟨Nat.le_of_ble_eq_true rfl, Nat.le_of_ble_eq_true rfl⟩ rfl hl.1 rfl (Nat.le_of_ble_eq_true rfl) ⟨Nat.le_of_ble_eq_true rfl, Nat.le_of_ble_eq_true rfl⟩ dX8_turns_11) (fun z2 S H locs I h => ?_)
    refine r_if_eq (tgt := 31) F dX8_turns_14 (by decide) h (fun h => ?_) (fun h => ?_)
    · exact hj_31 S _ _ _   h I (lv_sub hl [] rfl)
    · refine lv_aload_n F.1 F.2.1 dX8_turns_17 rfl (lv_at hl 0 rfl) ?_
      refine lv_iconst (v := 5) F.1 F.2.1 dX8_turns_18 (by decide) ?_
      refine lv_bipush (v := 6) F.1 F.2.1 dX8_turns_19 (by decide) ?_
      refine lv_iload_n F.1 F.2.1 dX8_turns_21 rfl (lv_at hl 1 rfl) ?_
      refine r_imul F dX8_turns_22 h (fun z3 h => ?_)
      refine r_iadd F dX8_turns_23 h (fun z4 h => ?_)
      refine lv_iload_n F.1 F.2.1 dX8_turns_24 rfl (lv_at hl 2 rfl) ?_
      refine g_I I (run_V (As := [.int z4, .int a2]) (rest := []) F I hr_a0 hk_a0 (by decide) kX8_141 (ctX8_becomes hr_a0 hk_a0 h) ⟨rfl, rfl⟩ ⟨Nat.le_of_ble_eq_true rfl, Nat.le_of_ble_eq_true rfl⟩ rfl hl.1 rfl (Nat.le_of_ble_eq_true rfl) ⟨Nat.le_of_ble_eq_true rfl, Nat.le_of_ble_eq_true rfl⟩ dX8_turns_25) (fun z5 S H locs I h => ?_)
      refine lv_goto (tgt := 33) F.1 F.2.1 dX8_turns_28 (by decide) ?_
      exact r_ireturn F I ⟨hr.1, hr.2.1, trivial⟩ h dX8_turns_33
theorem bdX8_set_0 : ∀ q ∈ ([(0, .aload_n 0, 1), (1, .iload_n 1, 1), (2, .invokevirtual 83, 3), (5, .ifCond .eq 49, 3), (8, .iload_n 2, 1), (9, .iconst 4, 1), (10, .iconst 5, 1), (11, .invokestatic 79, 3), (14, .ifCond .eq 40, 3), (17, .iload_n 3, 1), (18, .iconst 0, 1), (19, .iload_n 2, 1), (20, .iconst 4, 1), (21, .if_icmp .ne 8, 3), (24, .bipush 7, 2), (26, .goto 6, 3), (29, .sipush 255, 3), (32, .invokestatic 79, 3), (35, .ifCond .eq 19, 3), (38, .aload_n 0, 1), (39, .iconst 5, 1), (40, .bipush 6, 2), (42, .iload_n 1, 1), (43, .imul, 1), (44, .iadd, 1), (45, .iload_n 2, 1), (46, .iadd, 1), (47, .iload_n 3, 1), (48, .invokevirtual 141, 3), (51, .goto 5, 3), (54, .ldc 98, 2), (56, .ireturn, 1)] : List (Nat × Jvm.ClassFile.Instr × Nat)), decode cX8_set q.1 = .ok q.2 := chk_ok _ 0 _ rfl (by decide +kernel)
theorem dX8_set_0 : decode cX8_set 0 = .ok (.aload_n 0, 1) := bdX8_set_0 (0, .aload_n 0, 1) (List.mem_of_getElem? (i := 0) rfl)
theorem dX8_set_1 : decode cX8_set 1 = .ok (.iload_n 1, 1) := bdX8_set_0 (1, .iload_n 1, 1) (List.mem_of_getElem? (i := 1) rfl)
theorem dX8_set_2 : decode cX8_set 2 = .ok (.invokevirtual 83, 3) := bdX8_set_0 (2, .invokevirtual 83, 3) (List.mem_of_getElem? (i := 2) rfl)
theorem dX8_set_5 : decode cX8_set 5 = .ok (.ifCond .eq 49, 3) := bdX8_set_0 (5, .ifCond .eq 49, 3) (List.mem_of_getElem? (i := 3) rfl)
theorem dX8_set_8 : decode cX8_set 8 = .ok (.iload_n 2, 1) := bdX8_set_0 (8, .iload_n 2, 1) (List.mem_of_getElem? (i := 4) rfl)
theorem dX8_set_9 : decode cX8_set 9 = .ok (.iconst 4, 1) := bdX8_set_0 (9, .iconst 4, 1) (List.mem_of_getElem? (i := 5) rfl)
theorem dX8_set_10 : decode cX8_set 10 = .ok (.iconst 5, 1) := bdX8_set_0 (10, .iconst 5, 1) (List.mem_of_getElem? (i := 6) rfl)
theorem dX8_set_11 : decode cX8_set 11 = .ok (.invokestatic 79, 3) := bdX8_set_0 (11, .invokestatic 79, 3) (List.mem_of_getElem? (i := 7) rfl)
theorem dX8_set_14 : decode cX8_set 14 = .ok (.ifCond .eq 40, 3) := bdX8_set_0 (14, .ifCond .eq 40, 3) (List.mem_of_getElem? (i := 8) rfl)
theorem dX8_set_17 : decode cX8_set 17 = .ok (.iload_n 3, 1) := bdX8_set_0 (17, .iload_n 3, 1) (List.mem_of_getElem? (i := 9) rfl)
theorem dX8_set_18 : decode cX8_set 18 = .ok (.iconst 0, 1) := bdX8_set_0 (18, .iconst 0, 1) (List.mem_of_getElem? (i := 10) rfl)
theorem dX8_set_19 : decode cX8_set 19 = .ok (.iload_n 2, 1) := bdX8_set_0 (19, .iload_n 2, 1) (List.mem_of_getElem? (i := 11) rfl)
theorem dX8_set_20 : decode cX8_set 20 = .ok (.iconst 4, 1) := bdX8_set_0 (20, .iconst 4, 1) (List.mem_of_getElem? (i := 12) rfl)
theorem dX8_set_21 : decode cX8_set 21 = .ok (.if_icmp .ne 8, 3) := bdX8_set_0 (21, .if_icmp .ne 8, 3) (List.mem_of_getElem? (i := 13) rfl)
theorem dX8_set_24 : decode cX8_set 24 = .ok (.bipush 7, 2) := bdX8_set_0 (24, .bipush 7, 2) (List.mem_of_getElem? (i := 14) rfl)
theorem dX8_set_26 : decode cX8_set 26 = .ok (.goto 6, 3) := bdX8_set_0 (26, .goto 6, 3) (List.mem_of_getElem? (i := 15) rfl)
theorem dX8_set_29 : decode cX8_set 29 = .ok (.sipush 255, 3) := bdX8_set_0 (29, .sipush 255, 3) (List.mem_of_getElem? (i := 16) rfl)
theorem dX8_set_32 : decode cX8_set 32 = .ok (.invokestatic 79, 3) := bdX8_set_0 (32, .invokestatic 79, 3) (List.mem_of_getElem? (i := 17) rfl)
theorem dX8_set_35 : decode cX8_set 35 = .ok (.ifCond .eq 19, 3) := bdX8_set_0 (35, .ifCond .eq 19, 3) (List.mem_of_getElem? (i := 18) rfl)
theorem dX8_set_38 : decode cX8_set 38 = .ok (.aload_n 0, 1) := bdX8_set_0 (38, .aload_n 0, 1) (List.mem_of_getElem? (i := 19) rfl)
theorem dX8_set_39 : decode cX8_set 39 = .ok (.iconst 5, 1) := bdX8_set_0 (39, .iconst 5, 1) (List.mem_of_getElem? (i := 20) rfl)
theorem dX8_set_40 : decode cX8_set 40 = .ok (.bipush 6, 2) := bdX8_set_0 (40, .bipush 6, 2) (List.mem_of_getElem? (i := 21) rfl)
theorem dX8_set_42 : decode cX8_set 42 = .ok (.iload_n 1, 1) := bdX8_set_0 (42, .iload_n 1, 1) (List.mem_of_getElem? (i := 22) rfl)
theorem dX8_set_43 : decode cX8_set 43 = .ok (.imul, 1) := bdX8_set_0 (43, .imul, 1) (List.mem_of_getElem? (i := 23) rfl)
theorem dX8_set_44 : decode cX8_set 44 = .ok (.iadd, 1) := bdX8_set_0 (44, .iadd, 1) (List.mem_of_getElem? (i := 24) rfl)
theorem dX8_set_45 : decode cX8_set 45 = .ok (.iload_n 2, 1) := bdX8_set_0 (45, .iload_n 2, 1) (List.mem_of_getElem? (i := 25) rfl)
theorem dX8_set_46 : decode cX8_set 46 = .ok (.iadd, 1) := bdX8_set_0 (46, .iadd, 1) (List.mem_of_getElem? (i := 26) rfl)
theorem dX8_set_47 : decode cX8_set 47 = .ok (.iload_n 3, 1) := bdX8_set_0 (47, .iload_n 3, 1) (List.mem_of_getElem? (i := 27) rfl)
theorem dX8_set_48 : decode cX8_set 48 = .ok (.invokevirtual 141, 3) := bdX8_set_0 (48, .invokevirtual 141, 3) (List.mem_of_getElem? (i := 28) rfl)
theorem dX8_set_51 : decode cX8_set 51 = .ok (.goto 5, 3) := bdX8_set_0 (51, .goto 5, 3) (List.mem_of_getElem? (i := 29) rfl)
theorem dX8_set_54 : decode cX8_set 54 = .ok (.ldc 98, 2) := bdX8_set_0 (54, .ldc 98, 2) (List.mem_of_getElem? (i := 30) rfl)
theorem dX8_set_56 : decode cX8_set 56 = .ok (.ireturn, 1) := bdX8_set_0 (56, .ireturn, 1) (List.mem_of_getElem? (i := 31) rfl)
def BX8_set_54 (ln : Nat → Nat) (post : Int32 → HC → Prop) (S : HC)  : Prop := post (-1000000001 : Int32) S
def BX8_set_32 (ln : Nat → Nat) (post : Int32 → HC → Prop) (S : HC) (x0 : Nat) (x1 : Int32) (x2 : Int32) (x3 : Int32) (t0 : Int32) (t1 : Int32) (t2 : Int32) : Prop := wpX8_in ln S t0 t1 t2 fun z1 S => if z1 = 0 then (BX8_set_54 ln post S) else (lt_ ((6 : Int32) * x1) fun z2 => lt_ ((5 : Int32) + z2) fun z3 => lt_ (z3 + x2) fun z4 => wpX8_becomes ln S x0 z4 x3 fun z5 S => post z5 S)
def wpX8_set (ln : Nat → Nat) (S : HC) (a0 : Nat) (a1 : Int32) (a2 : Int32) (a3 : Int32) (post : Int32 → HC → Prop) : Prop := wpX8_isOne ln S a0 a1 fun z6 S => if z6 = 0 then (BX8_set_54 ln post S) else (wpX8_in ln S a2 (4 : Int32) (5 : Int32) fun z7 S => if z7 = 0 then (BX8_set_54 ln post S) else (if a2 = (4 : Int32) then (BX8_set_32 ln post S a0 a1 a2 a3 a3 (0 : Int32) (7 : Int32)) else (BX8_set_32 ln post S a0 a1 a2 a3 a3 (0 : Int32) (255 : Int32))))
abbrev rmX8_set : Room := { frames := 2, cells := 0, slots := 0, locals := 43 }
set_option maxHeartbeats 4000000 in
set_option maxRecDepth 100000 in
theorem ctX8_set {l : Launch} {g : GX} {N : Nat} {ln : Nat → Nat} {S : HC} {a0 : Nat} {a1 : Int32} {a2 : Int32} {a3 : Int32} {post : Int32 → HC → Prop} (hr_a0 : a0 < N) (hk_a0 : kd a0 = 8) (h : wpX8_set ln S a0 a1 a2 a3 post) : Met l yX8_set (Cond.code yX8_set prog_10_method_26_code 4 (Option.some Jvm.ClassFile.FieldType.int) :: gtbl) rmX8_set (va_Pc [.ref (gz g + a0), .int a1, .int a2, .int a3] (AtP g N ln S)) (QI g N ln post) 0 0 (gF g) := by
  refine m_of (by decide) (Nat.le_of_ble_eq_true rfl) ?_
  intro p e s m below meth c ls F hr I hl
  have hl : lv_has ls 4 [(0, .ref (gz g + a0)), (1, .int a1), (2, .int a2), (3, .int a3)] := hl
  unfold wpX8_set at h
  have hj_54 : ∀ (S : HC) (H : Heap) (locs : List Loc) (ls : Array Slot), BX8_set_54 ln post S  → Inv g N ln S s H locs → lv_has ls 4 [] → W p l e rmX8_set s m ([.ref (gz g + a0), .int a1, .int a2, .int a3] : List Value).toArray below meth c H locs 0 0 (MQ below (QI g N ln post) ([.ref (gz g + a0), .int a1, .int a2, .int a3] : List Value).toArray s 0 0 (gF g)) (F0 m 54 ls []) := by
    intro S H locs ls h I hl
    unfold BX8_set_54 at h
    refine lv_ldc F.1 F.2.1 F.2.2.2.1 (F.2.2.2.2 _ tw_1064) dX8_set_54 ?_
    exact r_ireturn F I ⟨hr.1, hr.2.1, trivial⟩ h dX8_set_56
  have hj_32 : ∀ (S : HC) (H : Heap) (locs : List Loc) (ls : Array Slot) (x0 : Nat) (x1 : Int32) (x2 : Int32) (x3 : Int32) (t0 : Int32) (t1 : Int32) (t2 : Int32), x0 < N → kd x0 = 8 → BX8_set_32 ln post S x0 x1 x2 x3 t0 t1 t2 → Inv g N ln S s H locs → lv_has ls 4 [(0, .ref (gz g + x0)), (1, .int x1), (2, .int x2), (3, .int x3)] → W p l e rmX8_set s m ([.ref (gz g + a0), .int a1, .int a2, .int a3] : List Value).toArray below meth c H locs 0 0 (MQ below (QI g N ln post) ([.ref (gz g + a0), .int a1, .int a2, .int a3] : List Value).toArray s 0 0 (gF g)) (F0 m 32 ls [.int t2, .int t1, .int t0]) := by
    intro S H locs ls x0 x1 x2 x3 t0 t1 t2 hr_x0 hk_x0 h I hl
    unfold BX8_set_32 at h
    refine g_I I (run_S (As := [.int t0, .int t1, .int t2]) (rest := []) F I kX8_79 (ctX8_in h) ⟨rfl, rfl⟩ ⟨Nat.le_of_ble_eq_true rfl, Nat.le_of_ble_eq_true rfl⟩ rfl hl.1 rfl (Nat.le_of_ble_eq_true rfl) ⟨Nat.le_of_ble_eq_true rfl, Nat.le_of_ble_eq_true rfl⟩ dX8_set_32) (fun z1 S H locs I h => ?_)
    refine r_if_eq (tgt := 54) F dX8_set_35 (by decide) h (fun h => ?_) (fun h => ?_)
    · exact hj_54 S _ _ _   h I (lv_sub hl [] rfl)
    · refine lv_aload_n F.1 F.2.1 dX8_set_38 rfl (lv_at hl 0 rfl) ?_
      refine lv_iconst (v := 5) F.1 F.2.1 dX8_set_39 (by decide) ?_
      refine lv_bipush (v := 6) F.1 F.2.1 dX8_set_40 (by decide) ?_
      refine lv_iload_n F.1 F.2.1 dX8_set_42 rfl (lv_at hl 1 rfl) ?_
      refine r_imul F dX8_set_43 h (fun z2 h => ?_)
      refine r_iadd F dX8_set_44 h (fun z3 h => ?_)
      refine lv_iload_n F.1 F.2.1 dX8_set_45 rfl (lv_at hl 2 rfl) ?_
      refine r_iadd F dX8_set_46 h (fun z4 h => ?_)
      refine lv_iload_n F.1 F.2.1 dX8_set_47 rfl (lv_at hl 3 rfl) ?_
      refine g_I I (run_V (As := [.int z4, .int x3]) (rest := []) F I hr_x0 hk_x0 (by decide) kX8_141 (ctX8_becomes hr_x0 hk_x0 h) ⟨rfl, rfl⟩ ⟨Nat.le_of_ble_eq_true rfl, Nat.le_of_ble_eq_true rfl⟩ rfl hl.1 rfl (Nat.le_of_ble_eq_true rfl) ⟨Nat.le_of_ble_eq_true rfl, Nat.le_of_ble_eq_true rfl⟩ dX8_set_48) (fun z5 S H locs I h => ?_)
      refine lv_goto (tgt := 56) F.1 F.2.1 dX8_set_51 (by decide) ?_
      exact r_ireturn F I ⟨hr.1, hr.2.1, trivial⟩ h dX8_set_56
  refine lv_aload_n F.1 F.2.1 dX8_set_0 rfl (lv_at hl 0 rfl) ?_
  refine lv_iload_n F.1 F.2.1 dX8_set_1 rfl (lv_at hl 1 rfl) ?_
  refine g_I I (run_V (As := [.int a1]) (rest := []) F I hr_a0 hk_a0 (by decide) kX8_83 (ctX8_isOne hr_a0 hk_a0 h) ⟨rfl, rfl⟩ ⟨Nat.le_of_ble_eq_true rfl, Nat.le_of_ble_eq_true rfl⟩ rfl hl.1 rfl (Nat.le_of_ble_eq_true rfl) ⟨Nat.le_of_ble_eq_true rfl, Nat.le_of_ble_eq_true rfl⟩ dX8_set_2) (fun z6 S H locs I h => ?_)
  refine r_if_eq (tgt := 54) F dX8_set_5 (by decide) h (fun h => ?_) (fun h => ?_)
  · exact hj_54 S _ _ _   h I (lv_sub hl [] rfl)
  · refine lv_iload_n F.1 F.2.1 dX8_set_8 rfl (lv_at hl 2 rfl) ?_
    refine lv_iconst (v := 4) F.1 F.2.1 dX8_set_9 (by decide) ?_
    refine lv_iconst (v := 5) F.1 F.2.1 dX8_set_10 (by decide) ?_
    refine g_I I (run_S (As := [.int a2, .int (4 : Int32), .int (5 : Int32)]) (rest := []) F I kX8_79 (ctX8_in h) ⟨rfl, rfl⟩ ⟨Nat.le_of_ble_eq_true rfl, Nat.le_of_ble_eq_true rfl⟩ rfl hl.1 rfl (Nat.le_of_ble_eq_true rfl) ⟨Nat.le_of_ble_eq_true rfl, Nat.le_of_ble_eq_true rfl⟩ dX8_set_11) (fun z7 S H locs I h => ?_)
    refine r_if_eq (tgt := 54) F dX8_set_14 (by decide) h (fun h => ?_) (fun h => ?_)
    · exact hj_54 S _ _ _   h I (lv_sub hl [] rfl)
    · refine lv_iload_n F.1 F.2.1 dX8_set_17 rfl (lv_at hl 3 rfl) ?_
      refine lv_iconst (v := 0) F.1 F.2.1 dX8_set_18 (by decide) ?_
      refine lv_iload_n F.1 F.2.1 dX8_set_19 rfl (lv_at hl 2 rfl) ?_
      refine lv_iconst (v := 4) F.1 F.2.1 dX8_set_20 (by decide) ?_
      refine r_icmp_ne (tgt := 29) F dX8_set_21 (by decide) h (fun h => ?_) (fun h => ?_)
      · refine lv_sipush (v := 255) F.1 F.2.1 dX8_set_29 (by decide) ?_
        exact hj_32 S _ _ _ a0 a1 a2 a3 a3 (0 : Int32) (255 : Int32) hr_a0 hk_a0 h I (lv_sub hl [0, 1, 2, 3] rfl)
      · refine lv_bipush (v := 7) F.1 F.2.1 dX8_set_24 (by decide) ?_
        refine lv_goto (tgt := 32) F.1 F.2.1 dX8_set_26 (by decide) ?_
        exact hj_32 S _ _ _ a0 a1 a2 a3 a3 (0 : Int32) (7 : Int32) hr_a0 hk_a0 h I (lv_sub hl [0, 1, 2, 3] rfl)
theorem bdX8_fertile_0 : ∀ q ∈ ([(0, .iload_n 1, 1), (1, .iconst 0, 1), (2, .bipush 100, 2), (4, .invokestatic 79, 3), (7, .ifCond .eq 12, 3), (10, .aload_n 0, 1), (11, .iconst 3, 1), (12, .iload_n 1, 1), (13, .invokevirtual 141, 3), (16, .goto 5, 3), (19, .ldc 98, 2), (21, .ireturn, 1)] : List (Nat × Jvm.ClassFile.Instr × Nat)), decode cX8_fertile q.1 = .ok q.2 := chk_ok _ 0 _ rfl (by decide +kernel)
theorem dX8_fertile_0 : decode cX8_fertile 0 = .ok (.iload_n 1, 1) := bdX8_fertile_0 (0, .iload_n 1, 1) (List.mem_of_getElem? (i := 0) rfl)
theorem dX8_fertile_1 : decode cX8_fertile 1 = .ok (.iconst 0, 1) := bdX8_fertile_0 (1, .iconst 0, 1) (List.mem_of_getElem? (i := 1) rfl)
theorem dX8_fertile_2 : decode cX8_fertile 2 = .ok (.bipush 100, 2) := bdX8_fertile_0 (2, .bipush 100, 2) (List.mem_of_getElem? (i := 2) rfl)
theorem dX8_fertile_4 : decode cX8_fertile 4 = .ok (.invokestatic 79, 3) := bdX8_fertile_0 (4, .invokestatic 79, 3) (List.mem_of_getElem? (i := 3) rfl)
theorem dX8_fertile_7 : decode cX8_fertile 7 = .ok (.ifCond .eq 12, 3) := bdX8_fertile_0 (7, .ifCond .eq 12, 3) (List.mem_of_getElem? (i := 4) rfl)
theorem dX8_fertile_10 : decode cX8_fertile 10 = .ok (.aload_n 0, 1) := bdX8_fertile_0 (10, .aload_n 0, 1) (List.mem_of_getElem? (i := 5) rfl)
theorem dX8_fertile_11 : decode cX8_fertile 11 = .ok (.iconst 3, 1) := bdX8_fertile_0 (11, .iconst 3, 1) (List.mem_of_getElem? (i := 6) rfl)
theorem dX8_fertile_12 : decode cX8_fertile 12 = .ok (.iload_n 1, 1) := bdX8_fertile_0 (12, .iload_n 1, 1) (List.mem_of_getElem? (i := 7) rfl)
theorem dX8_fertile_13 : decode cX8_fertile 13 = .ok (.invokevirtual 141, 3) := bdX8_fertile_0 (13, .invokevirtual 141, 3) (List.mem_of_getElem? (i := 8) rfl)
theorem dX8_fertile_16 : decode cX8_fertile 16 = .ok (.goto 5, 3) := bdX8_fertile_0 (16, .goto 5, 3) (List.mem_of_getElem? (i := 9) rfl)
theorem dX8_fertile_19 : decode cX8_fertile 19 = .ok (.ldc 98, 2) := bdX8_fertile_0 (19, .ldc 98, 2) (List.mem_of_getElem? (i := 10) rfl)
theorem dX8_fertile_21 : decode cX8_fertile 21 = .ok (.ireturn, 1) := bdX8_fertile_0 (21, .ireturn, 1) (List.mem_of_getElem? (i := 11) rfl)
def wpX8_fertile (ln : Nat → Nat) (S : HC) (a0 : Nat) (a1 : Int32) (post : Int32 → HC → Prop) : Prop := wpX8_in ln S a1 (0 : Int32) (100 : Int32) fun z1 S => if z1 = 0 then (post (-1000000001 : Int32) S) else (wpX8_becomes ln S a0 (3 : Int32) a1 fun z2 S => post z2 S)
abbrev rmX8_fertile : Room := { frames := 1, cells := 0, slots := 0, locals := 23 }
set_option maxHeartbeats 4000000 in
set_option maxRecDepth 100000 in
theorem ctX8_fertile {l : Launch} {g : GX} {N : Nat} {ln : Nat → Nat} {S : HC} {a0 : Nat} {a1 : Int32} {post : Int32 → HC → Prop} (hr_a0 : a0 < N) (hk_a0 : kd a0 = 8) (h : wpX8_fertile ln S a0 a1 post) : Met l yX8_fertile (Cond.code yX8_fertile prog_10_method_27_code 2 (Option.some Jvm.ClassFile.FieldType.int) :: gtbl) rmX8_fertile (va_Pc [.ref (gz g + a0), .int a1] (AtP g N ln S)) (QI g N ln post) 0 0 (gF g) := by
  refine m_of (by decide) (Nat.le_of_ble_eq_true rfl) ?_
  intro p e s m below meth c ls F hr I hl
  have hl : lv_has ls 2 [(0, .ref (gz g + a0)), (1, .int a1)] := hl
  unfold wpX8_fertile at h
  refine lv_iload_n F.1 F.2.1 dX8_fertile_0 rfl (lv_at hl 1 rfl) ?_
  refine lv_iconst (v := 0) F.1 F.2.1 dX8_fertile_1 (by decide) ?_
  refine lv_bipush (v := 100) F.1 F.2.1 dX8_fertile_2 (by decide) ?_
  refine g_I I (run_S (As := [.int a1, .int (0 : Int32), .int (100 : Int32)]) (rest := []) F I kX8_79 (ctX8_in h) ⟨rfl, rfl⟩ ⟨Nat.le_of_ble_eq_true rfl, Nat.le_of_ble_eq_true rfl⟩ rfl hl.1 rfl (Nat.le_of_ble_eq_true rfl) ⟨Nat.le_of_ble_eq_true rfl, Nat.le_of_ble_eq_true rfl⟩ dX8_fertile_4) (fun z1 S H locs I h => ?_)
  refine r_if_eq (tgt := 19) F dX8_fertile_7 (by decide) h (fun h => ?_) (fun h => ?_)
  · refine lv_ldc F.1 F.2.1 F.2.2.2.1 (F.2.2.2.2 _ tw_1064) dX8_fertile_19 ?_
    exact r_ireturn F I ⟨hr.1, hr.2.1, trivial⟩ h dX8_fertile_21
  · refine lv_aload_n F.1 F.2.1 dX8_fertile_10 rfl (lv_at hl 0 rfl) ?_
    refine lv_iconst (v := 3) F.1 F.2.1 dX8_fertile_11 (by decide) ?_
    refine lv_iload_n F.1 F.2.1 dX8_fertile_12 rfl (lv_at hl 1 rfl) ?_
    refine g_I I (run_V (As := [.int (3 : Int32), .int a1]) (rest := []) F I hr_a0 hk_a0 (by decide) kX8_141 (ctX8_becomes hr_a0 hk_a0 h) ⟨rfl, rfl⟩ ⟨Nat.le_of_ble_eq_true rfl, Nat.le_of_ble_eq_true rfl⟩ rfl hl.1 rfl (Nat.le_of_ble_eq_true rfl) ⟨Nat.le_of_ble_eq_true rfl, Nat.le_of_ble_eq_true rfl⟩ dX8_fertile_13) (fun z2 S H locs I h => ?_)
    refine lv_goto (tgt := 21) F.1 F.2.1 dX8_fertile_16 (by decide) ?_
    exact r_ireturn F I ⟨hr.1, hr.2.1, trivial⟩ h dX8_fertile_21
theorem bdX8_draw_0 : ∀ q ∈ ([(0, .aload_n 0, 1), (1, .getfield 9, 3), (4, .iconst 0, 1), (5, .aload_n 0, 1), (6, .getfield 9, 3), (9, .iconst 0, 1), (10, .iaload, 1), (11, .ldc 144, 2), (13, .imul, 1), (14, .sipush 12345, 3), (17, .iadd, 1), (18, .iastore, 1), (19, .aload_n 0, 1), (20, .getfield 9, 3), (23, .iconst 0, 1), (24, .iaload, 1), (25, .bipush 8, 2), (28, .ireturn, 1)] : List (Nat × Jvm.ClassFile.Instr × Nat)), decode cX8_draw q.1 = .ok q.2 := chk_ok _ 0 _ rfl (by decide +kernel)
theorem dX8_draw_0 : decode cX8_draw 0 = .ok (.aload_n 0, 1) := bdX8_draw_0 (0, .aload_n 0, 1) (List.mem_of_getElem? (i := 0) rfl)
theorem dX8_draw_1 : decode cX8_draw 1 = .ok (.getfield 9, 3) := bdX8_draw_0 (1, .getfield 9, 3) (List.mem_of_getElem? (i := 1) rfl)
theorem dX8_draw_4 : decode cX8_draw 4 = .ok (.iconst 0, 1) := bdX8_draw_0 (4, .iconst 0, 1) (List.mem_of_getElem? (i := 2) rfl)
theorem dX8_draw_5 : decode cX8_draw 5 = .ok (.aload_n 0, 1) := bdX8_draw_0 (5, .aload_n 0, 1) (List.mem_of_getElem? (i := 3) rfl)
theorem dX8_draw_6 : decode cX8_draw 6 = .ok (.getfield 9, 3) := bdX8_draw_0 (6, .getfield 9, 3) (List.mem_of_getElem? (i := 4) rfl)
theorem dX8_draw_9 : decode cX8_draw 9 = .ok (.iconst 0, 1) := bdX8_draw_0 (9, .iconst 0, 1) (List.mem_of_getElem? (i := 5) rfl)
theorem dX8_draw_10 : decode cX8_draw 10 = .ok (.iaload, 1) := bdX8_draw_0 (10, .iaload, 1) (List.mem_of_getElem? (i := 6) rfl)
theorem dX8_draw_11 : decode cX8_draw 11 = .ok (.ldc 144, 2) := bdX8_draw_0 (11, .ldc 144, 2) (List.mem_of_getElem? (i := 7) rfl)
theorem dX8_draw_13 : decode cX8_draw 13 = .ok (.imul, 1) := bdX8_draw_0 (13, .imul, 1) (List.mem_of_getElem? (i := 8) rfl)
theorem dX8_draw_14 : decode cX8_draw 14 = .ok (.sipush 12345, 3) := bdX8_draw_0 (14, .sipush 12345, 3) (List.mem_of_getElem? (i := 9) rfl)
theorem dX8_draw_17 : decode cX8_draw 17 = .ok (.iadd, 1) := bdX8_draw_0 (17, .iadd, 1) (List.mem_of_getElem? (i := 10) rfl)
theorem dX8_draw_18 : decode cX8_draw 18 = .ok (.iastore, 1) := bdX8_draw_0 (18, .iastore, 1) (List.mem_of_getElem? (i := 11) rfl)
theorem dX8_draw_19 : decode cX8_draw 19 = .ok (.aload_n 0, 1) := bdX8_draw_0 (19, .aload_n 0, 1) (List.mem_of_getElem? (i := 12) rfl)
theorem dX8_draw_20 : decode cX8_draw 20 = .ok (.getfield 9, 3) := bdX8_draw_0 (20, .getfield 9, 3) (List.mem_of_getElem? (i := 13) rfl)
theorem dX8_draw_23 : decode cX8_draw 23 = .ok (.iconst 0, 1) := bdX8_draw_0 (23, .iconst 0, 1) (List.mem_of_getElem? (i := 14) rfl)
theorem dX8_draw_24 : decode cX8_draw 24 = .ok (.iaload, 1) := bdX8_draw_0 (24, .iaload, 1) (List.mem_of_getElem? (i := 15) rfl)
theorem dX8_draw_25 : decode cX8_draw 25 = .ok (.bipush 8, 2) := bdX8_draw_0 (25, .bipush 8, 2) (List.mem_of_getElem? (i := 16) rfl)
theorem dX8_draw_28 : decode cX8_draw 28 = .ok (.ireturn, 1) := bdX8_draw_0 (28, .ireturn, 1) (List.mem_of_getElem? (i := 17) rfl)
theorem dX8_draw_27 : decode cX8_draw 27 = .ok (.iushr, 1) := by decide +kernel
def wpX8_draw (ln : Nat → Nat) (S : HC) (a0 : Nat) (post : Int32 → HC → Prop) : Prop := dn_ (hR S a0 0) fun b1 => dn_ (hR S a0 0) fun b2 => al_ (ln b2) (0 : Int32) (hI S b2) fun z3 => lt_ (z3 * (1103515245 : Int32)) fun z4 => lt_ (z4 + (12345 : Int32)) fun z5 => as_ (ln b1) (0 : Int32) (fun j => sI S b1 j z5) fun S => dn_ (hR S a0 0) fun b6 => al_ (ln b6) (0 : Int32) (hI S b6) fun z7 => lt_ ((z7.toUInt32 >>> ((8 : Int32).toUInt32 &&& Int32.toUInt32 31)).toInt32) fun z8 => post z8 S
abbrev rmX8_draw : Room := { frames := 0, cells := 0, slots := 0, locals := 0 }
set_option maxHeartbeats 4000000 in
set_option maxRecDepth 100000 in
theorem ctX8_draw {l : Launch} {g : GX} {N : Nat} {ln : Nat → Nat} {S : HC} {a0 : Nat} {post : Int32 → HC → Prop} (hr_a0 : a0 < N) (hk_a0 : kd a0 = 8) (h : wpX8_draw ln S a0 post) : Met l yX8_draw (Cond.code yX8_draw prog_10_method_28_code 1 (Option.some Jvm.ClassFile.FieldType.int) :: gtbl) rmX8_draw (va_Pc [.ref (gz g + a0)] (AtP g N ln S)) (QI g N ln post) 0 0 (gF g) := by
  refine m_of (by decide) (Nat.le_of_ble_eq_true rfl) ?_
  intro p e s m below meth c ls F hr I hl
  have hl : lv_has ls 1 [(0, .ref (gz g + a0))] := hl
  unfold wpX8_draw at h
  refine lv_aload_n F.1 F.2.1 dX8_draw_0 rfl (lv_at hl 0 rfl) ?_
  refine r_getN F I hr_a0 hk_a0 fX8_9 (f := 9) rfl (by decide) dX8_draw_1 h (fun b1 hr_b1 hk_b1 h => ?_)
  refine lv_iconst (v := 0) F.1 F.2.1 dX8_draw_4 (by decide) ?_
  refine lv_aload_n F.1 F.2.1 dX8_draw_5 rfl (lv_at hl 0 rfl) ?_
  refine r_getN F I hr_a0 hk_a0 fX8_9 (f := 9) rfl (by decide) dX8_draw_6 h (fun b2 hr_b2 hk_b2 h => ?_)
  refine lv_iconst (v := 0) F.1 F.2.1 dX8_draw_9 (by decide) ?_
  refine r_ald F I hr_b2 hk_b2 dX8_draw_10 h (fun z3 h => ?_)
  refine lv_ldc F.1 F.2.1 F.2.2.2.1 (F.2.2.2.2 _ tw_1152) dX8_draw_11 ?_
  refine r_imul F dX8_draw_13 h (fun z4 h => ?_)
  refine lv_sipush (v := 12345) F.1 F.2.1 dX8_draw_14 (by decide) ?_
  refine r_iadd F dX8_draw_17 h (fun z5 h => ?_)
  refine r_ast F I hr_b1 hk_b1 dX8_draw_18 h (fun S H locs I h => ?_)
  refine lv_aload_n F.1 F.2.1 dX8_draw_19 rfl (lv_at hl 0 rfl) ?_
  refine r_getN F I hr_a0 hk_a0 fX8_9 (f := 9) rfl (by decide) dX8_draw_20 h (fun b6 hr_b6 hk_b6 h => ?_)
  refine lv_iconst (v := 0) F.1 F.2.1 dX8_draw_23 (by decide) ?_
  refine r_ald F I hr_b6 hk_b6 dX8_draw_24 h (fun z7 h => ?_)
  refine lv_bipush (v := 8) F.1 F.2.1 dX8_draw_25 (by decide) ?_
  refine r_iushr F dX8_draw_27 h (fun z8 h => ?_)
  exact r_ireturn F I ⟨hr.1, hr.2.1, trivial⟩ h dX8_draw_28
theorem bdX8_deal_0 : ∀ q ∈ ([(0, .iload_n 1, 1), (1, .iconst 1, 1), (2, .bipush 14, 2), (4, .invokestatic 79, 3), (7, .ifCond .ne 6, 3), (10, .ldc 98, 2), (12, .ireturn, 1), (13, .iconst 0, 1), (14, .istore_n 2, 1), (15, .iload_n 2, 1), (16, .iload_n 1, 1), (17, .if_icmp .ge 54, 3), (20, .aload_n 0, 1), (21, .getfield 9, 3), (24, .iconst 1, 1), (25, .iaload, 1), (26, .bipush 14, 2), (28, .if_icmp .ge 43, 3), (31, .aload_n 0, 1), (32, .invokevirtual 145, 3), (35, .bipush 6, 2), (37, .irem, 1), (38, .istore_n 3, 1), (39, .aload_n 0, 1), (40, .invokevirtual 145, 3), (43, .iconst 2, 1), (44, .irem, 1), (45, .istore 4, 2), (47, .aload_n 0, 1), (48, .iload_n 3, 1), (49, .iconst (-1), 1), (50, .iconst (-1), 1), (51, .iload 4, 2), (53, .aload_n 0, 1), (54, .invokevirtual 145, 3), (57, .bipush 8, 2), (59, .irem, 1), (60, .invokevirtual 100, 3), (63, .istore 5, 2), (65, .iinc 2 1, 3)] : List (Nat × Jvm.ClassFile.Instr × Nat)), decode cX8_deal q.1 = .ok q.2 := chk_ok _ 0 _ rfl (by decide +kernel)
theorem dX8_deal_0 : decode cX8_deal 0 = .ok (.iload_n 1, 1) := bdX8_deal_0 (0, .iload_n 1, 1) (List.mem_of_getElem? (i := 0) rfl)
theorem dX8_deal_1 : decode cX8_deal 1 = .ok (.iconst 1, 1) := bdX8_deal_0 (1, .iconst 1, 1) (List.mem_of_getElem? (i := 1) rfl)
theorem dX8_deal_2 : decode cX8_deal 2 = .ok (.bipush 14, 2) := bdX8_deal_0 (2, .bipush 14, 2) (List.mem_of_getElem? (i := 2) rfl)
theorem dX8_deal_4 : decode cX8_deal 4 = .ok (.invokestatic 79, 3) := bdX8_deal_0 (4, .invokestatic 79, 3) (List.mem_of_getElem? (i := 3) rfl)
theorem dX8_deal_7 : decode cX8_deal 7 = .ok (.ifCond .ne 6, 3) := bdX8_deal_0 (7, .ifCond .ne 6, 3) (List.mem_of_getElem? (i := 4) rfl)
theorem dX8_deal_10 : decode cX8_deal 10 = .ok (.ldc 98, 2) := bdX8_deal_0 (10, .ldc 98, 2) (List.mem_of_getElem? (i := 5) rfl)
theorem dX8_deal_12 : decode cX8_deal 12 = .ok (.ireturn, 1) := bdX8_deal_0 (12, .ireturn, 1) (List.mem_of_getElem? (i := 6) rfl)
theorem dX8_deal_13 : decode cX8_deal 13 = .ok (.iconst 0, 1) := bdX8_deal_0 (13, .iconst 0, 1) (List.mem_of_getElem? (i := 7) rfl)
theorem dX8_deal_14 : decode cX8_deal 14 = .ok (.istore_n 2, 1) := bdX8_deal_0 (14, .istore_n 2, 1) (List.mem_of_getElem? (i := 8) rfl)
theorem dX8_deal_15 : decode cX8_deal 15 = .ok (.iload_n 2, 1) := bdX8_deal_0 (15, .iload_n 2, 1) (List.mem_of_getElem? (i := 9) rfl)
theorem dX8_deal_16 : decode cX8_deal 16 = .ok (.iload_n 1, 1) := bdX8_deal_0 (16, .iload_n 1, 1) (List.mem_of_getElem? (i := 10) rfl)
theorem dX8_deal_17 : decode cX8_deal 17 = .ok (.if_icmp .ge 54, 3) := bdX8_deal_0 (17, .if_icmp .ge 54, 3) (List.mem_of_getElem? (i := 11) rfl)
theorem dX8_deal_20 : decode cX8_deal 20 = .ok (.aload_n 0, 1) := bdX8_deal_0 (20, .aload_n 0, 1) (List.mem_of_getElem? (i := 12) rfl)
theorem dX8_deal_21 : decode cX8_deal 21 = .ok (.getfield 9, 3) := bdX8_deal_0 (21, .getfield 9, 3) (List.mem_of_getElem? (i := 13) rfl)
theorem dX8_deal_24 : decode cX8_deal 24 = .ok (.iconst 1, 1) := bdX8_deal_0 (24, .iconst 1, 1) (List.mem_of_getElem? (i := 14) rfl)
theorem dX8_deal_25 : decode cX8_deal 25 = .ok (.iaload, 1) := bdX8_deal_0 (25, .iaload, 1) (List.mem_of_getElem? (i := 15) rfl)
theorem dX8_deal_26 : decode cX8_deal 26 = .ok (.bipush 14, 2) := bdX8_deal_0 (26, .bipush 14, 2) (List.mem_of_getElem? (i := 16) rfl)
theorem dX8_deal_28 : decode cX8_deal 28 = .ok (.if_icmp .ge 43, 3) := bdX8_deal_0 (28, .if_icmp .ge 43, 3) (List.mem_of_getElem? (i := 17) rfl)
theorem dX8_deal_31 : decode cX8_deal 31 = .ok (.aload_n 0, 1) := bdX8_deal_0 (31, .aload_n 0, 1) (List.mem_of_getElem? (i := 18) rfl)
theorem dX8_deal_32 : decode cX8_deal 32 = .ok (.invokevirtual 145, 3) := bdX8_deal_0 (32, .invokevirtual 145, 3) (List.mem_of_getElem? (i := 19) rfl)
theorem dX8_deal_35 : decode cX8_deal 35 = .ok (.bipush 6, 2) := bdX8_deal_0 (35, .bipush 6, 2) (List.mem_of_getElem? (i := 20) rfl)
theorem dX8_deal_37 : decode cX8_deal 37 = .ok (.irem, 1) := bdX8_deal_0 (37, .irem, 1) (List.mem_of_getElem? (i := 21) rfl)
theorem dX8_deal_38 : decode cX8_deal 38 = .ok (.istore_n 3, 1) := bdX8_deal_0 (38, .istore_n 3, 1) (List.mem_of_getElem? (i := 22) rfl)
theorem dX8_deal_39 : decode cX8_deal 39 = .ok (.aload_n 0, 1) := bdX8_deal_0 (39, .aload_n 0, 1) (List.mem_of_getElem? (i := 23) rfl)
theorem dX8_deal_40 : decode cX8_deal 40 = .ok (.invokevirtual 145, 3) := bdX8_deal_0 (40, .invokevirtual 145, 3) (List.mem_of_getElem? (i := 24) rfl)
theorem dX8_deal_43 : decode cX8_deal 43 = .ok (.iconst 2, 1) := bdX8_deal_0 (43, .iconst 2, 1) (List.mem_of_getElem? (i := 25) rfl)
theorem dX8_deal_44 : decode cX8_deal 44 = .ok (.irem, 1) := bdX8_deal_0 (44, .irem, 1) (List.mem_of_getElem? (i := 26) rfl)
theorem dX8_deal_45 : decode cX8_deal 45 = .ok (.istore 4, 2) := bdX8_deal_0 (45, .istore 4, 2) (List.mem_of_getElem? (i := 27) rfl)
theorem dX8_deal_47 : decode cX8_deal 47 = .ok (.aload_n 0, 1) := bdX8_deal_0 (47, .aload_n 0, 1) (List.mem_of_getElem? (i := 28) rfl)
theorem dX8_deal_48 : decode cX8_deal 48 = .ok (.iload_n 3, 1) := bdX8_deal_0 (48, .iload_n 3, 1) (List.mem_of_getElem? (i := 29) rfl)
theorem dX8_deal_49 : decode cX8_deal 49 = .ok (.iconst (-1), 1) := bdX8_deal_0 (49, .iconst (-1), 1) (List.mem_of_getElem? (i := 30) rfl)
theorem dX8_deal_50 : decode cX8_deal 50 = .ok (.iconst (-1), 1) := bdX8_deal_0 (50, .iconst (-1), 1) (List.mem_of_getElem? (i := 31) rfl)
theorem dX8_deal_51 : decode cX8_deal 51 = .ok (.iload 4, 2) := bdX8_deal_0 (51, .iload 4, 2) (List.mem_of_getElem? (i := 32) rfl)
theorem dX8_deal_53 : decode cX8_deal 53 = .ok (.aload_n 0, 1) := bdX8_deal_0 (53, .aload_n 0, 1) (List.mem_of_getElem? (i := 33) rfl)
theorem dX8_deal_54 : decode cX8_deal 54 = .ok (.invokevirtual 145, 3) := bdX8_deal_0 (54, .invokevirtual 145, 3) (List.mem_of_getElem? (i := 34) rfl)
theorem dX8_deal_57 : decode cX8_deal 57 = .ok (.bipush 8, 2) := bdX8_deal_0 (57, .bipush 8, 2) (List.mem_of_getElem? (i := 35) rfl)
theorem dX8_deal_59 : decode cX8_deal 59 = .ok (.irem, 1) := bdX8_deal_0 (59, .irem, 1) (List.mem_of_getElem? (i := 36) rfl)
theorem dX8_deal_60 : decode cX8_deal 60 = .ok (.invokevirtual 100, 3) := bdX8_deal_0 (60, .invokevirtual 100, 3) (List.mem_of_getElem? (i := 37) rfl)
theorem dX8_deal_63 : decode cX8_deal 63 = .ok (.istore 5, 2) := bdX8_deal_0 (63, .istore 5, 2) (List.mem_of_getElem? (i := 38) rfl)
theorem dX8_deal_65 : decode cX8_deal 65 = .ok (.iinc 2 1, 3) := bdX8_deal_0 (65, .iinc 2 1, 3) (List.mem_of_getElem? (i := 39) rfl)
theorem bdX8_deal_68 : ∀ q ∈ ([(68, .goto (-53), 3), (71, .iload_n 2, 1), (72, .ireturn, 1)] : List (Nat × Jvm.ClassFile.Instr × Nat)), decode cX8_deal q.1 = .ok q.2 := chk_ok _ 68 _ rfl (by decide +kernel)
theorem dX8_deal_68 : decode cX8_deal 68 = .ok (.goto (-53), 3) := bdX8_deal_68 (68, .goto (-53), 3) (List.mem_of_getElem? (i := 0) rfl)
theorem dX8_deal_71 : decode cX8_deal 71 = .ok (.iload_n 2, 1) := bdX8_deal_68 (71, .iload_n 2, 1) (List.mem_of_getElem? (i := 1) rfl)
theorem dX8_deal_72 : decode cX8_deal 72 = .ok (.ireturn, 1) := bdX8_deal_68 (72, .ireturn, 1) (List.mem_of_getElem? (i := 2) rfl)
theorem kX8_145 : mthV RX8 145 8 yX8_draw prog_10_method_28_code 1 (Option.some Jvm.ClassFile.FieldType.int) 0 := ⟨⟨⟨tw_1148, tw_67, tw_1151⟩, rfl, by decide +kernel⟩, tw_1150, tw_36, rfl⟩
def BX8_deal_71 (ln : Nat → Nat) (post : Int32 → HC → Prop) (S : HC) (x2 : Int32) : Prop := post x2 S
def LX8_deal_15 (ln : Nat → Nat) (post : Int32 → HC → Prop) : Nat → HC → Nat → Int32 → Int32 → Prop
  | 0 => fun _ _ _ _ => False
  | n15 + 1 => fun S x0 x1 x2 => if x1 ≤ x2 then (BX8_deal_71 ln post S x2) else (dn_ (hR S x0 0) fun b1 => al_ (ln b1) (1 : Int32) (hI S b1) fun z2 => if (14 : Int32) ≤ z2 then (BX8_deal_71 ln post S x2) else (wpX8_draw ln S x0 fun z3 S => ne_ (6 : Int32) <| lt_ (z3 - z3 / (6 : Int32) * (6 : Int32)) fun z4 => wpX8_draw ln S x0 fun z5 S => ne_ (2 : Int32) <| lt_ (z5 - z5 / (2 : Int32) * (2 : Int32)) fun z6 => wpX8_draw ln S x0 fun z7 S => ne_ (8 : Int32) <| lt_ (z7 - z7 / (8 : Int32) * (8 : Int32)) fun z8 => wpX8_comes ln S x0 z4 (-1 : Int32) (-1 : Int32) z6 z8 fun z9 S => lt_ (x2 + (1 : Int32)) fun z10 => (LX8_deal_15 ln post n15) S x0 x1 z10))
def wpX8_deal (ln : Nat → Nat) (S : HC) (a0 : Nat) (a1 : Int32) (post : Int32 → HC → Prop) : Prop := wpX8_in ln S a1 (1 : Int32) (14 : Int32) fun z11 S => if z11 = 0 then (post (-1000000001 : Int32) S) else (∃ n15, LX8_deal_15 ln post n15 S a0 a1 (0 : Int32))
abbrev rmX8_deal : Room := { frames := 1, cells := 0, slots := 0, locals := 27 }
set_option maxHeartbeats 4000000 in
set_option maxRecDepth 100000 in
theorem ctX8_deal {l : Launch} {g : GX} {N : Nat} {ln : Nat → Nat} {S : HC} {a0 : Nat} {a1 : Int32} {post : Int32 → HC → Prop} (hr_a0 : a0 < N) (hk_a0 : kd a0 = 8) (h : wpX8_deal ln S a0 a1 post) : Met l yX8_deal (Cond.code yX8_deal prog_10_method_29_code 6 (Option.some Jvm.ClassFile.FieldType.int) :: gtbl) rmX8_deal (va_Pc [.ref (gz g + a0), .int a1] (AtP g N ln S)) (QI g N ln post) 0 0 (gF g) := by
  refine m_of (by decide) (Nat.le_of_ble_eq_true rfl) ?_
  intro p e s m below meth c ls F hr I hl
  have hl : lv_has ls 6 [(0, .ref (gz g + a0)), (1, .int a1)] := hl
  unfold wpX8_deal at h
  have hj_71 : ∀ (S : HC) (H : Heap) (locs : List Loc) (ls : Array Slot) (x2 : Int32), BX8_deal_71 ln post S x2 → Inv g N ln S s H locs → lv_has ls 6 [(2, .int x2)] → W p l e rmX8_deal s m ([.ref (gz g + a0), .int a1] : List Value).toArray below meth c H locs 0 0 (MQ below (QI g N ln post) ([.ref (gz g + a0), .int a1] : List Value).toArray s 0 0 (gF g)) (F0 m 71 ls []) := by
    intro S H locs ls x2 h I hl
    unfold BX8_deal_71 at h
    refine lv_iload_n F.1 F.2.1 dX8_deal_71 rfl (lv_at hl 0 rfl) ?_
    exact r_ireturn F I ⟨hr.1, hr.2.1, trivial⟩ h dX8_deal_72
  have hl_15 : ∀ n15 : Nat, ∀ (S : HC) (H : Heap) (locs : List Loc) (ls : Array Slot) (x0 : Nat) (x1 : Int32) (x2 : Int32), x0 < N → kd x0 = 8 → LX8_deal_15 ln post n15 S x0 x1 x2 → Inv g N ln S s H locs → lv_has ls 6 [(0, .ref (gz g + x0)), (1, .int x1), (2, .int x2)] → W p l e rmX8_deal s m ([.ref (gz g + a0), .int a1] : List Value).toArray below meth c H locs 0 0 (MQ below (QI g N ln post) ([.ref (gz g + a0), .int a1] : List Value).toArray s 0 0 (gF g)) (F0 m 15 ls []) := by
    intro n15
    induction n15 with
    | zero =>
      intro S H locs ls x0 x1 x2 hr_x0 hk_x0 h I hl
      exact h.elim
    | succ n15 ih =>
      have hk15 := ih
      intro S H locs ls x0 x1 x2 hr_x0 hk_x0 h I hl
      rw [LX8_deal_15] at h
      refine lv_iload_n F.1 F.2.1 dX8_deal_15 rfl (lv_at hl 2 rfl) ?_
      refine lv_iload_n F.1 F.2.1 dX8_deal_16 rfl (lv_at hl 1 rfl) ?_
      refine r_icmp_ge (tgt := 71) F dX8_deal_17 (by decide) h (fun h => ?_) (fun h => ?_)
      · exact hj_71 S _ _ _ x2  h I (lv_sub hl [2] rfl)
      · refine lv_aload_n F.1 F.2.1 dX8_deal_20 rfl (lv_at hl 0 rfl) ?_
        refine r_getN F I hr_x0 hk_x0 fX8_9 (f := 9) rfl (by decide) dX8_deal_21 h (fun b1 hr_b1 hk_b1 h => ?_)
        refine lv_iconst (v := 1) F.1 F.2.1 dX8_deal_24 (by decide) ?_
        refine r_ald F I hr_b1 hk_b1 dX8_deal_25 h (fun z2 h => ?_)
        refine lv_bipush (v := 14) F.1 F.2.1 dX8_deal_26 (by decide) ?_
        refine r_icmp_ge (tgt := 71) F dX8_deal_28 (by decide) h (fun h => ?_) (fun h => ?_)
        · exact hj_71 S _ _ _ x2  h I (lv_sub hl [2] rfl)
        · refine lv_aload_n F.1 F.2.1 dX8_deal_31 rfl (lv_at hl 0 rfl) ?_
          refine g_I I (run_V (As := []) (rest := []) F I hr_x0 hk_x0 (by decide) kX8_145 (ctX8_draw hr_x0 hk_x0 h) ⟨rfl, rfl⟩ ⟨Nat.le_of_ble_eq_true rfl, Nat.le_of_ble_eq_true rfl⟩ rfl hl.1 rfl (Nat.le_of_ble_eq_true rfl) ⟨Nat.le_of_ble_eq_true rfl, Nat.le_of_ble_eq_true rfl⟩ dX8_deal_32) (fun z3 S H locs I h => ?_)
          refine lv_bipush (v := 6) F.1 F.2.1 dX8_deal_35 (by decide) ?_
          refine r_irem F dX8_deal_37 h (fun z4 h => ?_)
          refine lv_istore_n (lv' := [(3, .int z4), (0, .ref (gz g + x0)), (1, .int x1), (2, .int x2)]) F.1 F.2.1 dX8_deal_38 rfl hl (by decide) rfl (fun ls hl => ?_)
          refine lv_aload_n F.1 F.2.1 dX8_deal_39 rfl (lv_at hl 1 rfl) ?_
          refine g_I I (run_V (As := []) (rest := []) F I hr_x0 hk_x0 (by decide) kX8_145 (ctX8_draw hr_x0 hk_x0 h) ⟨rfl, rfl⟩ ⟨Nat.le_of_ble_eq_true rfl, Nat.le_of_ble_eq_true rfl⟩ rfl hl.1 rfl (Nat.le_of_ble_eq_true rfl) ⟨Nat.le_of_ble_eq_true rfl, Nat.le_of_ble_eq_true rfl⟩ dX8_deal_40) (fun z5 S H locs I h => ?_)
          refine lv_iconst (v := 2) F.1 F.2.1 dX8_deal_43 (by decide) ?_
          refine r_irem F dX8_deal_44 h (fun z6 h => ?_)
          refine lv_istore (lv' := [(4, .int z6), (3, .int z4), (0, .ref (gz g + x0)), (1, .int x1), (2, .int x2)]) F.1 F.2.1 dX8_deal_45 hl (by decide) rfl (fun ls hl => ?_)
          refine lv_aload_n F.1 F.2.1 dX8_deal_47 rfl (lv_at hl 2 rfl) ?_
          refine lv_iload_n F.1 F.2.1 dX8_deal_48 rfl (lv_at hl 1 rfl) ?_
          refine lv_iconst (v := -1) F.1 F.2.1 dX8_deal_49 (by decide) ?_
          refine lv_iconst (v := -1) F.1 F.2.1 dX8_deal_50 (by decide) ?_
          refine lv_iload F.1 F.2.1 dX8_deal_51 (lv_at hl 0 rfl) ?_
          refine lv_aload_n F.1 F.2.1 dX8_deal_53 rfl (lv_at hl 2 rfl) ?_
          refine g_I I (run_V (As := []) (rest := [.int z6, .int (-1 : Int32), .int (-1 : Int32), .int z4, .ref (gz g + x0)]) F I hr_x0 hk_x0 (by decide) kX8_145 (ctX8_draw hr_x0 hk_x0 h) ⟨rfl, rfl⟩ ⟨Nat.le_of_ble_eq_true rfl, Nat.le_of_ble_eq_true rfl⟩ rfl hl.1 rfl (Nat.le_of_ble_eq_true rfl) ⟨Nat.le_of_ble_eq_true rfl, Nat.le_of_ble_eq_true rfl⟩ dX8_deal_54) (fun z7 S H locs I h => ?_)
          refine lv_bipush (v := 8) F.1 F.2.1 dX8_deal_57 (by decide) ?_
          refine r_irem F dX8_deal_59 h (fun z8 h => ?_)
          refine g_I I (run_V (As := [.int z4, .int (-1 : Int32), .int (-1 : Int32), .int z6, .int z8]) (rest := []) F I hr_x0 hk_x0 (by decide) kX8_100 (ctX8_comes hr_x0 hk_x0 h) ⟨rfl, rfl⟩ ⟨Nat.le_of_ble_eq_true rfl, Nat.le_of_ble_eq_true rfl⟩ rfl hl.1 rfl (Nat.le_of_ble_eq_true rfl) ⟨Nat.le_of_ble_eq_true rfl, Nat.le_of_ble_eq_true rfl⟩ dX8_deal_60) (fun z9 S H locs I h => ?_)
          refine lv_istore (lv' := [(5, .int z9), (4, .int z6), (3, .int z4), (0, .ref (gz g + x0)), (1, .int x1), (2, .int x2)]) F.1 F.2.1 dX8_deal_63 hl (by decide) rfl (fun ls hl => ?_)
          obtain ⟨z10, e_z10, h⟩ := lt_x h
          refine lv_iinc (v := z10) (lv' := [(2, .int z10), (5, .int z9), (4, .int z6), (3, .int z4), (0, .ref (gz g + x0)), (1, .int x1)]) F.1 F.2.1 dX8_deal_65 hl (k := 5) rfl (by rw [e_z10]; rfl) (by decide) rfl (fun ls hl => ?_)
          refine lv_goto (tgt := 15) F.1 F.2.1 dX8_deal_68 (by decide) ?_
          exact hk15 S _ _ _ x0 x1 z10 hr_x0 hk_x0 h I (lv_sub hl [4, 5, 0] rfl)
  refine lv_iload_n F.1 F.2.1 dX8_deal_0 rfl (lv_at hl 1 rfl) ?_
  refine lv_iconst (v := 1) F.1 F.2.1 dX8_deal_1 (by decide) ?_
  refine lv_bipush (v := 14) F.1 F.2.1 dX8_deal_2 (by decide) ?_
  refine g_I I (run_S (As := [.int a1, .int (1 : Int32), .int (14 : Int32)]) (rest := []) F I kX8_79 (ctX8_in h) ⟨rfl, rfl⟩ ⟨Nat.le_of_ble_eq_true rfl, Nat.le_of_ble_eq_true rfl⟩ rfl hl.1 rfl (Nat.le_of_ble_eq_true rfl) ⟨Nat.le_of_ble_eq_true rfl, Nat.le_of_ble_eq_true rfl⟩ dX8_deal_4) (fun z11 S H locs I h => ?_)
  refine r_if_ne (tgt := 13) F dX8_deal_7 (by decide) h (fun h => ?_) (fun h => ?_)
  · refine lv_iconst (v := 0) F.1 F.2.1 dX8_deal_13 (by decide) ?_
    refine lv_istore_n (lv' := [(2, .int (0 : Int32)), (0, .ref (gz g + a0)), (1, .int a1)]) F.1 F.2.1 dX8_deal_14 rfl hl (by decide) rfl (fun ls hl => ?_)
    obtain ⟨n15, h⟩ := h
    exact hl_15 n15 S _ _ _ a0 a1 (0 : Int32) hr_a0 hk_a0 h I (lv_sub hl [1, 2, 0] rfl)
  · refine lv_ldc F.1 F.2.1 F.2.2.2.1 (F.2.2.2.2 _ tw_1064) dX8_deal_10 ?_
    exact r_ireturn F I ⟨hr.1, hr.2.1, trivial⟩ h dX8_deal_12
theorem bdX8_seed_0 : ∀ q ∈ ([(0, .aload_n 0, 1), (1, .iconst 0, 1), (2, .iload_n 1, 1), (3, .invokevirtual 141, 3), (6, .ireturn, 1)] : List (Nat × Jvm.ClassFile.Instr × Nat)), decode cX8_seed q.1 = .ok q.2 := chk_ok _ 0 _ rfl (by decide +kernel)
theorem dX8_seed_0 : decode cX8_seed 0 = .ok (.aload_n 0, 1) := bdX8_seed_0 (0, .aload_n 0, 1) (List.mem_of_getElem? (i := 0) rfl)
theorem dX8_seed_1 : decode cX8_seed 1 = .ok (.iconst 0, 1) := bdX8_seed_0 (1, .iconst 0, 1) (List.mem_of_getElem? (i := 1) rfl)
theorem dX8_seed_2 : decode cX8_seed 2 = .ok (.iload_n 1, 1) := bdX8_seed_0 (2, .iload_n 1, 1) (List.mem_of_getElem? (i := 2) rfl)
theorem dX8_seed_3 : decode cX8_seed 3 = .ok (.invokevirtual 141, 3) := bdX8_seed_0 (3, .invokevirtual 141, 3) (List.mem_of_getElem? (i := 3) rfl)
theorem dX8_seed_6 : decode cX8_seed 6 = .ok (.ireturn, 1) := bdX8_seed_0 (6, .ireturn, 1) (List.mem_of_getElem? (i := 4) rfl)
def wpX8_seed (ln : Nat → Nat) (S : HC) (a0 : Nat) (a1 : Int32) (post : Int32 → HC → Prop) : Prop := wpX8_becomes ln S a0 (0 : Int32) a1 fun z1 S => post z1 S
abbrev rmX8_seed : Room := { frames := 1, cells := 0, slots := 0, locals := 23 }
set_option maxHeartbeats 4000000 in
set_option maxRecDepth 100000 in
theorem ctX8_seed {l : Launch} {g : GX} {N : Nat} {ln : Nat → Nat} {S : HC} {a0 : Nat} {a1 : Int32} {post : Int32 → HC → Prop} (hr_a0 : a0 < N) (hk_a0 : kd a0 = 8) (h : wpX8_seed ln S a0 a1 post) : Met l yX8_seed (Cond.code yX8_seed prog_10_method_30_code 2 (Option.some Jvm.ClassFile.FieldType.int) :: gtbl) rmX8_seed (va_Pc [.ref (gz g + a0), .int a1] (AtP g N ln S)) (QI g N ln post) 0 0 (gF g) := by
  refine m_of (by decide) (Nat.le_of_ble_eq_true rfl) ?_
  intro p e s m below meth c ls F hr I hl
  have hl : lv_has ls 2 [(0, .ref (gz g + a0)), (1, .int a1)] := hl
  unfold wpX8_seed at h
  refine lv_aload_n F.1 F.2.1 dX8_seed_0 rfl (lv_at hl 0 rfl) ?_
  refine lv_iconst (v := 0) F.1 F.2.1 dX8_seed_1 (by decide) ?_
  refine lv_iload_n F.1 F.2.1 dX8_seed_2 rfl (lv_at hl 1 rfl) ?_
  refine g_I I (run_V (As := [.int (0 : Int32), .int a1]) (rest := []) F I hr_a0 hk_a0 (by decide) kX8_141 (ctX8_becomes hr_a0 hk_a0 h) ⟨rfl, rfl⟩ ⟨Nat.le_of_ble_eq_true rfl, Nat.le_of_ble_eq_true rfl⟩ rfl hl.1 rfl (Nat.le_of_ble_eq_true rfl) ⟨Nat.le_of_ble_eq_true rfl, Nat.le_of_ble_eq_true rfl⟩ dX8_seed_3) (fun z1 S H locs I h => ?_)
  exact r_ireturn F I ⟨hr.1, hr.2.1, trivial⟩ h dX8_seed_6
theorem bdX8_manyOf_0 : ∀ q ∈ ([(0, .iconst 0, 1), (1, .istore_n 2, 1), (2, .iconst 0, 1), (3, .istore_n 3, 1), (4, .iload_n 3, 1), (5, .aload_n 0, 1), (6, .getfield 9, 3), (9, .iconst 1, 1), (10, .iaload, 1), (11, .if_icmp .ge 27, 3), (14, .iload_n 2, 1), (15, .aload_n 0, 1), (16, .iload_n 3, 1), (17, .iconst 3, 1), (18, .invokevirtual 87, 3), (21, .iload_n 1, 1), (22, .if_icmp .ne 7, 3), (25, .iconst 1, 1), (26, .goto 4, 3), (29, .iconst 0, 1), (30, .iadd, 1), (31, .istore_n 2, 1), (32, .iinc 3 1, 3), (35, .goto (-31), 3), (38, .iload_n 2, 1), (39, .ireturn, 1)] : List (Nat × Jvm.ClassFile.Instr × Nat)), decode cX8_manyOf q.1 = .ok q.2 := chk_ok _ 0 _ rfl (by decide +kernel)
theorem dX8_manyOf_0 : decode cX8_manyOf 0 = .ok (.iconst 0, 1) := bdX8_manyOf_0 (0, .iconst 0, 1) (List.mem_of_getElem? (i := 0) rfl)
theorem dX8_manyOf_1 : decode cX8_manyOf 1 = .ok (.istore_n 2, 1) := bdX8_manyOf_0 (1, .istore_n 2, 1) (List.mem_of_getElem? (i := 1) rfl)
theorem dX8_manyOf_2 : decode cX8_manyOf 2 = .ok (.iconst 0, 1) := bdX8_manyOf_0 (2, .iconst 0, 1) (List.mem_of_getElem? (i := 2) rfl)
theorem dX8_manyOf_3 : decode cX8_manyOf 3 = .ok (.istore_n 3, 1) := bdX8_manyOf_0 (3, .istore_n 3, 1) (List.mem_of_getElem? (i := 3) rfl)
theorem dX8_manyOf_4 : decode cX8_manyOf 4 = .ok (.iload_n 3, 1) := bdX8_manyOf_0 (4, .iload_n 3, 1) (List.mem_of_getElem? (i := 4) rfl)
theorem dX8_manyOf_5 : decode cX8_manyOf 5 = .ok (.aload_n 0, 1) := bdX8_manyOf_0 (5, .aload_n 0, 1) (List.mem_of_getElem? (i := 5) rfl)
theorem dX8_manyOf_6 : decode cX8_manyOf 6 = .ok (.getfield 9, 3) := bdX8_manyOf_0 (6, .getfield 9, 3) (List.mem_of_getElem? (i := 6) rfl)
theorem dX8_manyOf_9 : decode cX8_manyOf 9 = .ok (.iconst 1, 1) := bdX8_manyOf_0 (9, .iconst 1, 1) (List.mem_of_getElem? (i := 7) rfl)
theorem dX8_manyOf_10 : decode cX8_manyOf 10 = .ok (.iaload, 1) := bdX8_manyOf_0 (10, .iaload, 1) (List.mem_of_getElem? (i := 8) rfl)
theorem dX8_manyOf_11 : decode cX8_manyOf 11 = .ok (.if_icmp .ge 27, 3) := bdX8_manyOf_0 (11, .if_icmp .ge 27, 3) (List.mem_of_getElem? (i := 9) rfl)
theorem dX8_manyOf_14 : decode cX8_manyOf 14 = .ok (.iload_n 2, 1) := bdX8_manyOf_0 (14, .iload_n 2, 1) (List.mem_of_getElem? (i := 10) rfl)
theorem dX8_manyOf_15 : decode cX8_manyOf 15 = .ok (.aload_n 0, 1) := bdX8_manyOf_0 (15, .aload_n 0, 1) (List.mem_of_getElem? (i := 11) rfl)
theorem dX8_manyOf_16 : decode cX8_manyOf 16 = .ok (.iload_n 3, 1) := bdX8_manyOf_0 (16, .iload_n 3, 1) (List.mem_of_getElem? (i := 12) rfl)
theorem dX8_manyOf_17 : decode cX8_manyOf 17 = .ok (.iconst 3, 1) := bdX8_manyOf_0 (17, .iconst 3, 1) (List.mem_of_getElem? (i := 13) rfl)
theorem dX8_manyOf_18 : decode cX8_manyOf 18 = .ok (.invokevirtual 87, 3) := bdX8_manyOf_0 (18, .invokevirtual 87, 3) (List.mem_of_getElem? (i := 14) rfl)
theorem dX8_manyOf_21 : decode cX8_manyOf 21 = .ok (.iload_n 1, 1) := bdX8_manyOf_0 (21, .iload_n 1, 1) (List.mem_of_getElem? (i := 15) rfl)
theorem dX8_manyOf_22 : decode cX8_manyOf 22 = .ok (.if_icmp .ne 7, 3) := bdX8_manyOf_0 (22, .if_icmp .ne 7, 3) (List.mem_of_getElem? (i := 16) rfl)
theorem dX8_manyOf_25 : decode cX8_manyOf 25 = .ok (.iconst 1, 1) := bdX8_manyOf_0 (25, .iconst 1, 1) (List.mem_of_getElem? (i := 17) rfl)
theorem dX8_manyOf_26 : decode cX8_manyOf 26 = .ok (.goto 4, 3) := bdX8_manyOf_0 (26, .goto 4, 3) (List.mem_of_getElem? (i := 18) rfl)
theorem dX8_manyOf_29 : decode cX8_manyOf 29 = .ok (.iconst 0, 1) := bdX8_manyOf_0 (29, .iconst 0, 1) (List.mem_of_getElem? (i := 19) rfl)
theorem dX8_manyOf_30 : decode cX8_manyOf 30 = .ok (.iadd, 1) := bdX8_manyOf_0 (30, .iadd, 1) (List.mem_of_getElem? (i := 20) rfl)
theorem dX8_manyOf_31 : decode cX8_manyOf 31 = .ok (.istore_n 2, 1) := bdX8_manyOf_0 (31, .istore_n 2, 1) (List.mem_of_getElem? (i := 21) rfl)
theorem dX8_manyOf_32 : decode cX8_manyOf 32 = .ok (.iinc 3 1, 3) := bdX8_manyOf_0 (32, .iinc 3 1, 3) (List.mem_of_getElem? (i := 22) rfl)
theorem dX8_manyOf_35 : decode cX8_manyOf 35 = .ok (.goto (-31), 3) := bdX8_manyOf_0 (35, .goto (-31), 3) (List.mem_of_getElem? (i := 23) rfl)
theorem dX8_manyOf_38 : decode cX8_manyOf 38 = .ok (.iload_n 2, 1) := bdX8_manyOf_0 (38, .iload_n 2, 1) (List.mem_of_getElem? (i := 24) rfl)
theorem dX8_manyOf_39 : decode cX8_manyOf 39 = .ok (.ireturn, 1) := bdX8_manyOf_0 (39, .ireturn, 1) (List.mem_of_getElem? (i := 25) rfl)
def BX8_manyOf_30 (ln : Nat → Nat) (post : Int32 → HC → Prop) (K4 : HC → Nat → Int32 → Int32 → Int32 → Prop) (S : HC) (x0 : Nat) (x1 : Int32) (x3 : Int32) (t0 : Int32) (t1 : Int32) : Prop := lt_ (t0 + t1) fun z1 => lt_ (x3 + (1 : Int32)) fun z2 => K4 S x0 x1 z1 z2
def LX8_manyOf_4 (ln : Nat → Nat) (post : Int32 → HC → Prop) : Nat → HC → Nat → Int32 → Int32 → Int32 → Prop
  | 0 => fun _ _ _ _ _ => False
  | n4 + 1 => fun S x0 x1 x2 x3 => dn_ (hR S x0 0) fun b3 => al_ (ln b3) (1 : Int32) (hI S b3) fun z4 => if z4 ≤ x3 then (post x2 S) else (wpX8_of ln S x0 x3 (3 : Int32) fun z5 S => if z5 = x1 then (BX8_manyOf_30 ln post (LX8_manyOf_4 ln post n4) S x0 x1 x3 x2 (1 : Int32)) else (BX8_manyOf_30 ln post (LX8_manyOf_4 ln post n4) S x0 x1 x3 x2 (0 : Int32)))
def wpX8_manyOf (ln : Nat → Nat) (S : HC) (a0 : Nat) (a1 : Int32) (post : Int32 → HC → Prop) : Prop := ∃ n4, LX8_manyOf_4 ln post n4 S a0 a1 (0 : Int32) (0 : Int32)
abbrev rmX8_manyOf : Room := { frames := 1, cells := 0, slots := 0, locals := 22 }
set_option maxHeartbeats 4000000 in
set_option maxRecDepth 100000 in
theorem ctX8_manyOf {l : Launch} {g : GX} {N : Nat} {ln : Nat → Nat} {S : HC} {a0 : Nat} {a1 : Int32} {post : Int32 → HC → Prop} (hr_a0 : a0 < N) (hk_a0 : kd a0 = 8) (h : wpX8_manyOf ln S a0 a1 post) : Met l yX8_manyOf (Cond.code yX8_manyOf prog_10_method_31_code 4 (Option.some Jvm.ClassFile.FieldType.int) :: gtbl) rmX8_manyOf (va_Pc [.ref (gz g + a0), .int a1] (AtP g N ln S)) (QI g N ln post) 0 0 (gF g) := by
  refine m_of (by decide) (Nat.le_of_ble_eq_true rfl) ?_
  intro p e s m below meth c ls F hr I hl
  have hl : lv_has ls 4 [(0, .ref (gz g + a0)), (1, .int a1)] := hl
  unfold wpX8_manyOf at h
  have hl_4 : ∀ n4 : Nat, ∀ (S : HC) (H : Heap) (locs : List Loc) (ls : Array Slot) (x0 : Nat) (x1 : Int32) (x2 : Int32) (x3 : Int32), x0 < N → kd x0 = 8 → LX8_manyOf_4 ln post n4 S x0 x1 x2 x3 → Inv g N ln S s H locs → lv_has ls 4 [(0, .ref (gz g + x0)), (1, .int x1), (2, .int x2), (3, .int x3)] → W p l e rmX8_manyOf s m ([.ref (gz g + a0), .int a1] : List Value).toArray below meth c H locs 0 0 (MQ below (QI g N ln post) ([.ref (gz g + a0), .int a1] : List Value).toArray s 0 0 (gF g)) (F0 m 4 ls []) := by
    intro n4
    induction n4 with
    | zero =>
      intro S H locs ls x0 x1 x2 x3 hr_x0 hk_x0 h I hl
      exact h.elim
    | succ n4 ih =>
      have hk4 := ih
      have hj_30 : ∀ (S : HC) (H : Heap) (locs : List Loc) (ls : Array Slot) (x0 : Nat) (x1 : Int32) (x3 : Int32) (t0 : Int32) (t1 : Int32), x0 < N → kd x0 = 8 → BX8_manyOf_30 ln post (LX8_manyOf_4 ln post n4) S x0 x1 x3 t0 t1 → Inv g N ln S s H locs → lv_has ls 4 [(0, .ref (gz g + x0)), (1, .int x1), (3, .int x3)] → W p l e rmX8_manyOf s m ([.ref (gz g + a0), .int a1] : List Value).toArray below meth c H locs 0 0 (MQ below (QI g N ln post) ([.ref (gz g + a0), .int a1] : List Value).toArray s 0 0 (gF g)) (F0 m 30 ls [.int t1, .int t0]) := by
        intro S H locs ls x0 x1 x3 t0 t1 hr_x0 hk_x0 h I hl
        unfold BX8_manyOf_30 at h
        refine r_iadd F dX8_manyOf_30 h (fun z1 h => ?_)
        refine lv_istore_n (lv' := [(2, .int z1), (0, .ref (gz g + x0)), (1, .int x1), (3, .int x3)]) F.1 F.2.1 dX8_manyOf_31 rfl hl (by decide) rfl (fun ls hl => ?_)
        obtain ⟨z2, e_z2, h⟩ := lt_x h
        refine lv_iinc (v := z2) (lv' := [(3, .int z2), (2, .int z1), (0, .ref (gz g + x0)), (1, .int x1)]) F.1 F.2.1 dX8_manyOf_32 hl (k := 3) rfl (by rw [e_z2]; rfl) (by decide) rfl (fun ls hl => ?_)
        refine lv_goto (tgt := 4) F.1 F.2.1 dX8_manyOf_35 (by decide) ?_
        exact hk4 S _ _ _ x0 x1 z1 z2 hr_x0 hk_x0 h I (lv_sub hl [2, 3, 1, 0] rfl)
      intro S H locs ls x0 x1 x2 x3 hr_x0 hk_x0 h I hl
      rw [LX8_manyOf_4] at h
      refine lv_iload_n F.1 F.2.1 dX8_manyOf_4 rfl (lv_at hl 3 rfl) ?_
      refine lv_aload_n F.1 F.2.1 dX8_manyOf_5 rfl (lv_at hl 0 rfl) ?_
      refine r_getN F I hr_x0 hk_x0 fX8_9 (f := 9) rfl (by decide) dX8_manyOf_6 h (fun b3 hr_b3 hk_b3 h => ?_)
      refine lv_iconst (v := 1) F.1 F.2.1 dX8_manyOf_9 (by decide) ?_
      refine r_ald F I hr_b3 hk_b3 dX8_manyOf_10 h (fun z4 h => ?_)
      refine r_icmp_ge (tgt := 38) F dX8_manyOf_11 (by decide) h (fun h => ?_) (fun h => ?_)
      · refine lv_iload_n F.1 F.2.1 dX8_manyOf_38 rfl (lv_at hl 2 rfl) ?_
        exact r_ireturn F I ⟨hr.1, hr.2.1, trivial⟩ h dX8_manyOf_39
      · refine lv_iload_n F.1 F.2.1 dX8_manyOf_14 rfl (lv_at hl 2 rfl) ?_
        refine lv_aload_n F.1 F.2.1 dX8_manyOf_15 rfl (lv_at hl 0 rfl) ?_
        refine lv_iload_n F.1 F.2.1 dX8_manyOf_16 rfl (lv_at hl 3 rfl) ?_
        refine lv_iconst (v := 3) F.1 F.2.1 dX8_manyOf_17 (by decide) ?_
        refine g_I I (run_V (As := [.int x3, .int (3 : Int32)]) (rest := [.int x2]) F I hr_x0 hk_x0 (by decide) kX8_87 (ctX8_of hr_x0 hk_x0 h) ⟨rfl, rfl⟩ ⟨Nat.le_of_ble_eq_true rfl, Nat.le_of_ble_eq_true rfl⟩ rfl hl.1 rfl (Nat.le_of_ble_eq_true rfl) ⟨Nat.le_of_ble_eq_true rfl, Nat.le_of_ble_eq_true rfl⟩ dX8_manyOf_18) (fun z5 S H locs I h => ?_)
        refine lv_iload_n F.1 F.2.1 dX8_manyOf_21 rfl (lv_at hl 1 rfl) ?_
        refine r_icmp_ne (tgt := 29) F dX8_manyOf_22 (by decide) h (fun h => ?_) (fun h => ?_)
        · refine lv_iconst (v := 0) F.1 F.2.1 dX8_manyOf_29 (by decide) ?_
          exact hj_30 S _ _ _ x0 x1 x3 x2 (0 : Int32) hr_x0 hk_x0 h I (lv_sub hl [0, 1, 3] rfl)
        · refine lv_iconst (v := 1) F.1 F.2.1 dX8_manyOf_25 (by decide) ?_
          refine lv_goto (tgt := 30) F.1 F.2.1 dX8_manyOf_26 (by decide) ?_
          exact hj_30 S _ _ _ x0 x1 x3 x2 (1 : Int32) hr_x0 hk_x0 h I (lv_sub hl [0, 1, 3] rfl)
  refine lv_iconst (v := 0) F.1 F.2.1 dX8_manyOf_0 (by decide) ?_
  refine lv_istore_n (lv' := [(2, .int (0 : Int32)), (0, .ref (gz g + a0)), (1, .int a1)]) F.1 F.2.1 dX8_manyOf_1 rfl hl (by decide) rfl (fun ls hl => ?_)
  refine lv_iconst (v := 0) F.1 F.2.1 dX8_manyOf_2 (by decide) ?_
  refine lv_istore_n (lv' := [(3, .int (0 : Int32)), (2, .int (0 : Int32)), (0, .ref (gz g + a0)), (1, .int a1)]) F.1 F.2.1 dX8_manyOf_3 rfl hl (by decide) rfl (fun ls hl => ?_)
  obtain ⟨n4, h⟩ := h
  exact hl_4 n4 S _ _ _ a0 a1 (0 : Int32) (0 : Int32) hr_a0 hk_a0 h I (lv_sub hl [2, 3, 1, 0] rfl)
theorem bdX8_numberOf_0 : ∀ q ∈ ([(0, .iload_n 2, 1), (1, .istore_n 3, 1), (2, .iconst 0, 1), (3, .istore 4, 2), (5, .iload_n 3, 1), (6, .ifCond .gt 14, 3), (9, .aload_n 0, 1), (10, .iload 4, 2), (12, .iconst 3, 1), (13, .invokevirtual 87, 3), (16, .iload_n 1, 1), (17, .if_icmp .eq 28, 3), (20, .iload_n 3, 1), (21, .aload_n 0, 1), (22, .iload 4, 2), (24, .iconst 3, 1), (25, .invokevirtual 87, 3), (28, .iload_n 1, 1), (29, .if_icmp .ne 7, 3), (32, .iconst 1, 1), (33, .goto 4, 3), (36, .iconst 0, 1), (37, .isub, 1), (38, .istore_n 3, 1), (39, .iinc 4 1, 3), (42, .goto (-37), 3), (45, .iload 4, 2), (47, .ireturn, 1)] : List (Nat × Jvm.ClassFile.Instr × Nat)), decode cX8_numberOf q.1 = .ok q.2 := chk_ok _ 0 _ rfl (by decide +kernel)
theorem dX8_numberOf_0 : decode cX8_numberOf 0 = .ok (.iload_n 2, 1) := bdX8_numberOf_0 (0, .iload_n 2, 1) (List.mem_of_getElem? (i := 0) rfl)
theorem dX8_numberOf_1 : decode cX8_numberOf 1 = .ok (.istore_n 3, 1) := bdX8_numberOf_0 (1, .istore_n 3, 1) (List.mem_of_getElem? (i := 1) rfl)
theorem dX8_numberOf_2 : decode cX8_numberOf 2 = .ok (.iconst 0, 1) := bdX8_numberOf_0 (2, .iconst 0, 1) (List.mem_of_getElem? (i := 2) rfl)
theorem dX8_numberOf_3 : decode cX8_numberOf 3 = .ok (.istore 4, 2) := bdX8_numberOf_0 (3, .istore 4, 2) (List.mem_of_getElem? (i := 3) rfl)
theorem dX8_numberOf_5 : decode cX8_numberOf 5 = .ok (.iload_n 3, 1) := bdX8_numberOf_0 (5, .iload_n 3, 1) (List.mem_of_getElem? (i := 4) rfl)
theorem dX8_numberOf_6 : decode cX8_numberOf 6 = .ok (.ifCond .gt 14, 3) := bdX8_numberOf_0 (6, .ifCond .gt 14, 3) (List.mem_of_getElem? (i := 5) rfl)
theorem dX8_numberOf_9 : decode cX8_numberOf 9 = .ok (.aload_n 0, 1) := bdX8_numberOf_0 (9, .aload_n 0, 1) (List.mem_of_getElem? (i := 6) rfl)
theorem dX8_numberOf_10 : decode cX8_numberOf 10 = .ok (.iload 4, 2) := bdX8_numberOf_0 (10, .iload 4, 2) (List.mem_of_getElem? (i := 7) rfl)
theorem dX8_numberOf_12 : decode cX8_numberOf 12 = .ok (.iconst 3, 1) := bdX8_numberOf_0 (12, .iconst 3, 1) (List.mem_of_getElem? (i := 8) rfl)
theorem dX8_numberOf_13 : decode cX8_numberOf 13 = .ok (.invokevirtual 87, 3) := bdX8_numberOf_0 (13, .invokevirtual 87, 3) (List.mem_of_getElem? (i := 9) rfl)
theorem dX8_numberOf_16 : decode cX8_numberOf 16 = .ok (.iload_n 1, 1) := bdX8_numberOf_0 (16, .iload_n 1, 1) (List.mem_of_getElem? (i := 10) rfl)
theorem dX8_numberOf_17 : decode cX8_numberOf 17 = .ok (.if_icmp .eq 28, 3) := bdX8_numberOf_0 (17, .if_icmp .eq 28, 3) (List.mem_of_getElem? (i := 11) rfl)
theorem dX8_numberOf_20 : decode cX8_numberOf 20 = .ok (.iload_n 3, 1) := bdX8_numberOf_0 (20, .iload_n 3, 1) (List.mem_of_getElem? (i := 12) rfl)
theorem dX8_numberOf_21 : decode cX8_numberOf 21 = .ok (.aload_n 0, 1) := bdX8_numberOf_0 (21, .aload_n 0, 1) (List.mem_of_getElem? (i := 13) rfl)
theorem dX8_numberOf_22 : decode cX8_numberOf 22 = .ok (.iload 4, 2) := bdX8_numberOf_0 (22, .iload 4, 2) (List.mem_of_getElem? (i := 14) rfl)
theorem dX8_numberOf_24 : decode cX8_numberOf 24 = .ok (.iconst 3, 1) := bdX8_numberOf_0 (24, .iconst 3, 1) (List.mem_of_getElem? (i := 15) rfl)
theorem dX8_numberOf_25 : decode cX8_numberOf 25 = .ok (.invokevirtual 87, 3) := bdX8_numberOf_0 (25, .invokevirtual 87, 3) (List.mem_of_getElem? (i := 16) rfl)
theorem dX8_numberOf_28 : decode cX8_numberOf 28 = .ok (.iload_n 1, 1) := bdX8_numberOf_0 (28, .iload_n 1, 1) (List.mem_of_getElem? (i := 17) rfl)
theorem dX8_numberOf_29 : decode cX8_numberOf 29 = .ok (.if_icmp .ne 7, 3) := bdX8_numberOf_0 (29, .if_icmp .ne 7, 3) (List.mem_of_getElem? (i := 18) rfl)
theorem dX8_numberOf_32 : decode cX8_numberOf 32 = .ok (.iconst 1, 1) := bdX8_numberOf_0 (32, .iconst 1, 1) (List.mem_of_getElem? (i := 19) rfl)
theorem dX8_numberOf_33 : decode cX8_numberOf 33 = .ok (.goto 4, 3) := bdX8_numberOf_0 (33, .goto 4, 3) (List.mem_of_getElem? (i := 20) rfl)
theorem dX8_numberOf_36 : decode cX8_numberOf 36 = .ok (.iconst 0, 1) := bdX8_numberOf_0 (36, .iconst 0, 1) (List.mem_of_getElem? (i := 21) rfl)
theorem dX8_numberOf_37 : decode cX8_numberOf 37 = .ok (.isub, 1) := bdX8_numberOf_0 (37, .isub, 1) (List.mem_of_getElem? (i := 22) rfl)
theorem dX8_numberOf_38 : decode cX8_numberOf 38 = .ok (.istore_n 3, 1) := bdX8_numberOf_0 (38, .istore_n 3, 1) (List.mem_of_getElem? (i := 23) rfl)
theorem dX8_numberOf_39 : decode cX8_numberOf 39 = .ok (.iinc 4 1, 3) := bdX8_numberOf_0 (39, .iinc 4 1, 3) (List.mem_of_getElem? (i := 24) rfl)
theorem dX8_numberOf_42 : decode cX8_numberOf 42 = .ok (.goto (-37), 3) := bdX8_numberOf_0 (42, .goto (-37), 3) (List.mem_of_getElem? (i := 25) rfl)
theorem dX8_numberOf_45 : decode cX8_numberOf 45 = .ok (.iload 4, 2) := bdX8_numberOf_0 (45, .iload 4, 2) (List.mem_of_getElem? (i := 26) rfl)
theorem dX8_numberOf_47 : decode cX8_numberOf 47 = .ok (.ireturn, 1) := bdX8_numberOf_0 (47, .ireturn, 1) (List.mem_of_getElem? (i := 27) rfl)
def BX8_numberOf_37 (ln : Nat → Nat) (post : Int32 → HC → Prop) (K5 : HC → Nat → Int32 → Int32 → Int32 → Prop) (S : HC) (x0 : Nat) (x1 : Int32) (x4 : Int32) (t0 : Int32) (t1 : Int32) : Prop := lt_ (t0 - t1) fun z1 => lt_ (x4 + (1 : Int32)) fun z2 => K5 S x0 x1 z1 z2
def BX8_numberOf_20 (ln : Nat → Nat) (post : Int32 → HC → Prop) (K5 : HC → Nat → Int32 → Int32 → Int32 → Prop) (S : HC) (x0 : Nat) (x1 : Int32) (x3 : Int32) (x4 : Int32) : Prop := wpX8_of ln S x0 x4 (3 : Int32) fun z3 S => if z3 = x1 then (BX8_numberOf_37 ln post K5 S x0 x1 x4 x3 (1 : Int32)) else (BX8_numberOf_37 ln post K5 S x0 x1 x4 x3 (0 : Int32))
def LX8_numberOf_5 (ln : Nat → Nat) (post : Int32 → HC → Prop) : Nat → HC → Nat → Int32 → Int32 → Int32 → Prop
  | 0 => fun _ _ _ _ _ => False
  | n5 + 1 => fun S x0 x1 x3 x4 => if 0 < x3 then (BX8_numberOf_20 ln post (LX8_numberOf_5 ln post n5) S x0 x1 x3 x4) else (wpX8_of ln S x0 x4 (3 : Int32) fun z4 S => if z4 = x1 then (post x4 S) else (BX8_numberOf_20 ln post (LX8_numberOf_5 ln post n5) S x0 x1 x3 x4))
def wpX8_numberOf (ln : Nat → Nat) (S : HC) (a0 : Nat) (a1 : Int32) (a2 : Int32) (post : Int32 → HC → Prop) : Prop := ∃ n5, LX8_numberOf_5 ln post n5 S a0 a1 a2 (0 : Int32)
abbrev rmX8_numberOf : Room := { frames := 1, cells := 0, slots := 0, locals := 22 }
set_option maxHeartbeats 4000000 in
set_option maxRecDepth 100000 in
theorem ctX8_numberOf {l : Launch} {g : GX} {N : Nat} {ln : Nat → Nat} {S : HC} {a0 : Nat} {a1 : Int32} {a2 : Int32} {post : Int32 → HC → Prop} (hr_a0 : a0 < N) (hk_a0 : kd a0 = 8) (h : wpX8_numberOf ln S a0 a1 a2 post) : Met l yX8_numberOf (Cond.code yX8_numberOf prog_10_method_32_code 5 (Option.some Jvm.ClassFile.FieldType.int) :: gtbl) rmX8_numberOf (va_Pc [.ref (gz g + a0), .int a1, .int a2] (AtP g N ln S)) (QI g N ln post) 0 0 (gF g) := by
  refine m_of (by decide) (Nat.le_of_ble_eq_true rfl) ?_
  intro p e s m below meth c ls F hr I hl
  have hl : lv_has ls 5 [(0, .ref (gz g + a0)), (1, .int a1), (2, .int a2)] := hl
  unfold wpX8_numberOf at h
  have hl_5 : ∀ n5 : Nat, ∀ (S : HC) (H : Heap) (locs : List Loc) (ls : Array Slot) (x0 : Nat) (x1 : Int32) (x3 : Int32) (x4 : Int32), x0 < N → kd x0 = 8 → LX8_numberOf_5 ln post n5 S x0 x1 x3 x4 → Inv g N ln S s H locs → lv_has ls 5 [(0, .ref (gz g + x0)), (1, .int x1), (3, .int x3), (4, .int x4)] → W p l e rmX8_numberOf s m ([.ref (gz g + a0), .int a1, .int a2] : List Value).toArray below meth c H locs 0 0 (MQ below (QI g N ln post) ([.ref (gz g + a0), .int a1, .int a2] : List Value).toArray s 0 0 (gF g)) (F0 m 5 ls []) := by
    intro n5
    induction n5 with
    | zero =>
      intro S H locs ls x0 x1 x3 x4 hr_x0 hk_x0 h I hl
      exact h.elim
    | succ n5 ih =>
      have hk5 := ih
      have hj_37 : ∀ (S : HC) (H : Heap) (locs : List Loc) (ls : Array Slot) (x0 : Nat) (x1 : Int32) (x4 : Int32) (t0 : Int32) (t1 : Int32), x0 < N → kd x0 = 8 → BX8_numberOf_37 ln post (LX8_numberOf_5 ln post n5) S x0 x1 x4 t0 t1 → Inv g N ln S s H locs → lv_has ls 5 [(0, .ref (gz g + x0)), (1, .int x1), (4, .int x4)] → W p l e rmX8_numberOf s m ([.ref (gz g + a0), .int a1, .int a2] : List Value).toArray below meth c H locs 0 0 (MQ below (QI g N ln post) ([.ref (gz g + a0), .int a1, .int a2] : List Value).toArray s 0 0 (gF g)) (F0 m 37 ls [.int t1, .int t0]) := by
        intro S H locs ls x0 x1 x4 t0 t1 hr_x0 hk_x0 h I hl
        unfold BX8_numberOf_37 at h
        refine r_isub F dX8_numberOf_37 h (fun z1 h => ?_)
        refine lv_istore_n (lv' := [(3, .int z1), (0, .ref (gz g + x0)), (1, .int x1), (4, .int x4)]) F.1 F.2.1 dX8_numberOf_38 rfl hl (by decide) rfl (fun ls hl => ?_)
        obtain ⟨z2, e_z2, h⟩ := lt_x h
        refine lv_iinc (v := z2) (lv' := [(4, .int z2), (3, .int z1), (0, .ref (gz g + x0)), (1, .int x1)]) F.1 F.2.1 dX8_numberOf_39 hl (k := 3) rfl (by rw [e_z2]; rfl) (by decide) rfl (fun ls hl => ?_)
        refine lv_goto (tgt := 5) F.1 F.2.1 dX8_numberOf_42 (by decide) ?_
        exact hk5 S _ _ _ x0 x1 z1 z2 hr_x0 hk_x0 h I (lv_sub hl [2, 3, 1, 0] rfl)
      have hj_20 : ∀ (S : HC) (H : Heap) (locs : List Loc) (ls : Array Slot) (x0 : Nat) (x1 : Int32) (x3 : Int32) (x4 : Int32), x0 < N → kd x0 = 8 → BX8_numberOf_20 ln post (LX8_numberOf_5 ln post n5) S x0 x1 x3 x4 → Inv g N ln S s H locs → lv_has ls 5 [(0, .ref (gz g + x0)), (1, .int x1), (3, .int x3), (4, .int x4)] → W p l e rmX8_numberOf s m ([.ref (gz g + a0), .int a1, .int a2] : List Value).toArray below meth c H locs 0 0 (MQ below (QI g N ln post) ([.ref (gz g + a0), .int a1, .int a2] : List Value).toArray s 0 0 (gF g)) (F0 m 20 ls []) := by
        intro S H locs ls x0 x1 x3 x4 hr_x0 hk_x0 h I hl
        unfold BX8_numberOf_20 at h
        refine lv_iload_n F.1 F.2.1 dX8_numberOf_20 rfl (lv_at hl 2 rfl) ?_
        refine lv_aload_n F.1 F.2.1 dX8_numberOf_21 rfl (lv_at hl 0 rfl) ?_
        refine lv_iload F.1 F.2.1 dX8_numberOf_22 (lv_at hl 3 rfl) ?_
        refine lv_iconst (v := 3) F.1 F.2.1 dX8_numberOf_24 (by decide) ?_
        refine g_I I (run_V (As := [.int x4, .int (3 : Int32)]) (rest := [.int x3]) F I hr_x0 hk_x0 (by decide) kX8_87 (ctX8_of hr_x0 hk_x0 h) ⟨rfl, rfl⟩ ⟨Nat.le_of_ble_eq_true rfl, Nat.le_of_ble_eq_true rfl⟩ rfl hl.1 rfl (Nat.le_of_ble_eq_true rfl) ⟨Nat.le_of_ble_eq_true rfl, Nat.le_of_ble_eq_true rfl⟩ dX8_numberOf_25) (fun z3 S H locs I h => ?_)
        refine lv_iload_n F.1 F.2.1 dX8_numberOf_28 rfl (lv_at hl 1 rfl) ?_
        refine r_icmp_ne (tgt := 36) F dX8_numberOf_29 (by decide) h (fun h => ?_) (fun h => ?_)
        · refine lv_iconst (v := 0) F.1 F.2.1 dX8_numberOf_36 (by decide) ?_
          exact hj_37 S _ _ _ x0 x1 x4 x3 (0 : Int32) hr_x0 hk_x0 h I (lv_sub hl [0, 1, 3] rfl)
        · refine lv_iconst (v := 1) F.1 F.2.1 dX8_numberOf_32 (by decide) ?_
          refine lv_goto (tgt := 37) F.1 F.2.1 dX8_numberOf_33 (by decide) ?_
          exact hj_37 S _ _ _ x0 x1 x4 x3 (1 : Int32) hr_x0 hk_x0 h I (lv_sub hl [0, 1, 3] rfl)
      intro S H locs ls x0 x1 x3 x4 hr_x0 hk_x0 h I hl
      rw [LX8_numberOf_5] at h
      refine lv_iload_n F.1 F.2.1 dX8_numberOf_5 rfl (lv_at hl 2 rfl) ?_
      refine r_if_gt (tgt := 20) F dX8_numberOf_6 (by decide) h (fun h => ?_) (fun h => ?_)
      · exact hj_20 S _ _ _ x0 x1 x3 x4 hr_x0 hk_x0 h I (lv_sub hl [0, 1, 2, 3] rfl)
      · refine lv_aload_n F.1 F.2.1 dX8_numberOf_9 rfl (lv_at hl 0 rfl) ?_
        refine lv_iload F.1 F.2.1 dX8_numberOf_10 (lv_at hl 3 rfl) ?_
        refine lv_iconst (v := 3) F.1 F.2.1 dX8_numberOf_12 (by decide) ?_
        refine g_I I (run_V (As := [.int x4, .int (3 : Int32)]) (rest := []) F I hr_x0 hk_x0 (by decide) kX8_87 (ctX8_of hr_x0 hk_x0 h) ⟨rfl, rfl⟩ ⟨Nat.le_of_ble_eq_true rfl, Nat.le_of_ble_eq_true rfl⟩ rfl hl.1 rfl (Nat.le_of_ble_eq_true rfl) ⟨Nat.le_of_ble_eq_true rfl, Nat.le_of_ble_eq_true rfl⟩ dX8_numberOf_13) (fun z4 S H locs I h => ?_)
        refine lv_iload_n F.1 F.2.1 dX8_numberOf_16 rfl (lv_at hl 1 rfl) ?_
        refine r_icmp_eq (tgt := 45) F dX8_numberOf_17 (by decide) h (fun h => ?_) (fun h => ?_)
        · refine lv_iload F.1 F.2.1 dX8_numberOf_45 (lv_at hl 3 rfl) ?_
          exact r_ireturn F I ⟨hr.1, hr.2.1, trivial⟩ h dX8_numberOf_47
        · exact hj_20 S _ _ _ x0 x1 x3 x4 hr_x0 hk_x0 h I (lv_sub hl [0, 1, 2, 3] rfl)
  refine lv_iload_n F.1 F.2.1 dX8_numberOf_0 rfl (lv_at hl 2 rfl) ?_
  refine lv_istore_n (lv' := [(3, .int a2), (0, .ref (gz g + a0)), (1, .int a1), (2, .int a2)]) F.1 F.2.1 dX8_numberOf_1 rfl hl (by decide) rfl (fun ls hl => ?_)
  refine lv_iconst (v := 0) F.1 F.2.1 dX8_numberOf_2 (by decide) ?_
  refine lv_istore (lv' := [(4, .int (0 : Int32)), (3, .int a2), (0, .ref (gz g + a0)), (1, .int a1), (2, .int a2)]) F.1 F.2.1 dX8_numberOf_3 hl (by decide) rfl (fun ls hl => ?_)
  obtain ⟨n5, h⟩ := h
  exact hl_5 n5 S _ _ _ a0 a1 a2 (0 : Int32) hr_a0 hk_a0 h I (lv_sub hl [2, 3, 1, 0] rfl)
theorem bdX8_year_0 : ∀ q ∈ ([(0, .aload_n 0, 1), (1, .invokevirtual 145, 3), (4, .bipush 100, 2), (6, .irem, 1), (7, .aload_n 0, 1), (8, .getfield 9, 3), (11, .iconst 3, 1), (12, .iaload, 1), (13, .if_icmp .ge 7, 3), (16, .iconst 1, 1), (17, .goto 4, 3), (20, .iconst 0, 1), (21, .istore_n 1, 1), (22, .aload_n 0, 1), (23, .iconst 0, 1), (24, .invokevirtual 149, 3), (27, .istore_n 2, 1), (28, .aload_n 0, 1), (29, .iconst 1, 1), (30, .invokevirtual 149, 3), (33, .istore_n 3, 1), (34, .iload_n 1, 1), (35, .ifCond .eq 86, 3), (38, .aload_n 0, 1), (39, .getfield 9, 3), (42, .iconst 1, 1), (43, .iaload, 1), (44, .bipush 14, 2), (46, .if_icmp .ge 75, 3), (49, .iload_n 2, 1), (50, .ifCond .le 71, 3), (53, .iload_n 3, 1), (54, .ifCond .le 67, 3), (57, .aload_n 0, 1), (58, .iconst 0, 1), (59, .aload_n 0, 1), (60, .invokevirtual 145, 3), (63, .iload_n 2, 1), (64, .irem, 1), (65, .invokevirtual 152, 3)] : List (Nat × Jvm.ClassFile.Instr × Nat)), decode cX8_year q.1 = .ok q.2 := chk_ok _ 0 _ rfl (by decide +kernel)
theorem dX8_year_0 : decode cX8_year 0 = .ok (.aload_n 0, 1) := bdX8_year_0 (0, .aload_n 0, 1) (List.mem_of_getElem? (i := 0) rfl)
theorem dX8_year_1 : decode cX8_year 1 = .ok (.invokevirtual 145, 3) := bdX8_year_0 (1, .invokevirtual 145, 3) (List.mem_of_getElem? (i := 1) rfl)
theorem dX8_year_4 : decode cX8_year 4 = .ok (.bipush 100, 2) := bdX8_year_0 (4, .bipush 100, 2) (List.mem_of_getElem? (i := 2) rfl)
theorem dX8_year_6 : decode cX8_year 6 = .ok (.irem, 1) := bdX8_year_0 (6, .irem, 1) (List.mem_of_getElem? (i := 3) rfl)
theorem dX8_year_7 : decode cX8_year 7 = .ok (.aload_n 0, 1) := bdX8_year_0 (7, .aload_n 0, 1) (List.mem_of_getElem? (i := 4) rfl)
theorem dX8_year_8 : decode cX8_year 8 = .ok (.getfield 9, 3) := bdX8_year_0 (8, .getfield 9, 3) (List.mem_of_getElem? (i := 5) rfl)
theorem dX8_year_11 : decode cX8_year 11 = .ok (.iconst 3, 1) := bdX8_year_0 (11, .iconst 3, 1) (List.mem_of_getElem? (i := 6) rfl)
theorem dX8_year_12 : decode cX8_year 12 = .ok (.iaload, 1) := bdX8_year_0 (12, .iaload, 1) (List.mem_of_getElem? (i := 7) rfl)
theorem dX8_year_13 : decode cX8_year 13 = .ok (.if_icmp .ge 7, 3) := bdX8_year_0 (13, .if_icmp .ge 7, 3) (List.mem_of_getElem? (i := 8) rfl)
theorem dX8_year_16 : decode cX8_year 16 = .ok (.iconst 1, 1) := bdX8_year_0 (16, .iconst 1, 1) (List.mem_of_getElem? (i := 9) rfl)
theorem dX8_year_17 : decode cX8_year 17 = .ok (.goto 4, 3) := bdX8_year_0 (17, .goto 4, 3) (List.mem_of_getElem? (i := 10) rfl)
theorem dX8_year_20 : decode cX8_year 20 = .ok (.iconst 0, 1) := bdX8_year_0 (20, .iconst 0, 1) (List.mem_of_getElem? (i := 11) rfl)
theorem dX8_year_21 : decode cX8_year 21 = .ok (.istore_n 1, 1) := bdX8_year_0 (21, .istore_n 1, 1) (List.mem_of_getElem? (i := 12) rfl)
theorem dX8_year_22 : decode cX8_year 22 = .ok (.aload_n 0, 1) := bdX8_year_0 (22, .aload_n 0, 1) (List.mem_of_getElem? (i := 13) rfl)
theorem dX8_year_23 : decode cX8_year 23 = .ok (.iconst 0, 1) := bdX8_year_0 (23, .iconst 0, 1) (List.mem_of_getElem? (i := 14) rfl)
theorem dX8_year_24 : decode cX8_year 24 = .ok (.invokevirtual 149, 3) := bdX8_year_0 (24, .invokevirtual 149, 3) (List.mem_of_getElem? (i := 15) rfl)
theorem dX8_year_27 : decode cX8_year 27 = .ok (.istore_n 2, 1) := bdX8_year_0 (27, .istore_n 2, 1) (List.mem_of_getElem? (i := 16) rfl)
theorem dX8_year_28 : decode cX8_year 28 = .ok (.aload_n 0, 1) := bdX8_year_0 (28, .aload_n 0, 1) (List.mem_of_getElem? (i := 17) rfl)
theorem dX8_year_29 : decode cX8_year 29 = .ok (.iconst 1, 1) := bdX8_year_0 (29, .iconst 1, 1) (List.mem_of_getElem? (i := 18) rfl)
theorem dX8_year_30 : decode cX8_year 30 = .ok (.invokevirtual 149, 3) := bdX8_year_0 (30, .invokevirtual 149, 3) (List.mem_of_getElem? (i := 19) rfl)
theorem dX8_year_33 : decode cX8_year 33 = .ok (.istore_n 3, 1) := bdX8_year_0 (33, .istore_n 3, 1) (List.mem_of_getElem? (i := 20) rfl)
theorem dX8_year_34 : decode cX8_year 34 = .ok (.iload_n 1, 1) := bdX8_year_0 (34, .iload_n 1, 1) (List.mem_of_getElem? (i := 21) rfl)
theorem dX8_year_35 : decode cX8_year 35 = .ok (.ifCond .eq 86, 3) := bdX8_year_0 (35, .ifCond .eq 86, 3) (List.mem_of_getElem? (i := 22) rfl)
theorem dX8_year_38 : decode cX8_year 38 = .ok (.aload_n 0, 1) := bdX8_year_0 (38, .aload_n 0, 1) (List.mem_of_getElem? (i := 23) rfl)
theorem dX8_year_39 : decode cX8_year 39 = .ok (.getfield 9, 3) := bdX8_year_0 (39, .getfield 9, 3) (List.mem_of_getElem? (i := 24) rfl)
theorem dX8_year_42 : decode cX8_year 42 = .ok (.iconst 1, 1) := bdX8_year_0 (42, .iconst 1, 1) (List.mem_of_getElem? (i := 25) rfl)
theorem dX8_year_43 : decode cX8_year 43 = .ok (.iaload, 1) := bdX8_year_0 (43, .iaload, 1) (List.mem_of_getElem? (i := 26) rfl)
theorem dX8_year_44 : decode cX8_year 44 = .ok (.bipush 14, 2) := bdX8_year_0 (44, .bipush 14, 2) (List.mem_of_getElem? (i := 27) rfl)
theorem dX8_year_46 : decode cX8_year 46 = .ok (.if_icmp .ge 75, 3) := bdX8_year_0 (46, .if_icmp .ge 75, 3) (List.mem_of_getElem? (i := 28) rfl)
theorem dX8_year_49 : decode cX8_year 49 = .ok (.iload_n 2, 1) := bdX8_year_0 (49, .iload_n 2, 1) (List.mem_of_getElem? (i := 29) rfl)
theorem dX8_year_50 : decode cX8_year 50 = .ok (.ifCond .le 71, 3) := bdX8_year_0 (50, .ifCond .le 71, 3) (List.mem_of_getElem? (i := 30) rfl)
theorem dX8_year_53 : decode cX8_year 53 = .ok (.iload_n 3, 1) := bdX8_year_0 (53, .iload_n 3, 1) (List.mem_of_getElem? (i := 31) rfl)
theorem dX8_year_54 : decode cX8_year 54 = .ok (.ifCond .le 67, 3) := bdX8_year_0 (54, .ifCond .le 67, 3) (List.mem_of_getElem? (i := 32) rfl)
theorem dX8_year_57 : decode cX8_year 57 = .ok (.aload_n 0, 1) := bdX8_year_0 (57, .aload_n 0, 1) (List.mem_of_getElem? (i := 33) rfl)
theorem dX8_year_58 : decode cX8_year 58 = .ok (.iconst 0, 1) := bdX8_year_0 (58, .iconst 0, 1) (List.mem_of_getElem? (i := 34) rfl)
theorem dX8_year_59 : decode cX8_year 59 = .ok (.aload_n 0, 1) := bdX8_year_0 (59, .aload_n 0, 1) (List.mem_of_getElem? (i := 35) rfl)
theorem dX8_year_60 : decode cX8_year 60 = .ok (.invokevirtual 145, 3) := bdX8_year_0 (60, .invokevirtual 145, 3) (List.mem_of_getElem? (i := 36) rfl)
theorem dX8_year_63 : decode cX8_year 63 = .ok (.iload_n 2, 1) := bdX8_year_0 (63, .iload_n 2, 1) (List.mem_of_getElem? (i := 37) rfl)
theorem dX8_year_64 : decode cX8_year 64 = .ok (.irem, 1) := bdX8_year_0 (64, .irem, 1) (List.mem_of_getElem? (i := 38) rfl)
theorem dX8_year_65 : decode cX8_year 65 = .ok (.invokevirtual 152, 3) := bdX8_year_0 (65, .invokevirtual 152, 3) (List.mem_of_getElem? (i := 39) rfl)
theorem bdX8_year_68 : ∀ q ∈ ([(68, .istore 4, 2), (70, .aload_n 0, 1), (71, .iconst 1, 1), (72, .aload_n 0, 1), (73, .invokevirtual 145, 3), (76, .iload_n 3, 1), (77, .irem, 1), (78, .invokevirtual 152, 3), (81, .istore 5, 2), (83, .aload_n 0, 1), (84, .invokevirtual 145, 3), (87, .iconst 2, 1), (88, .irem, 1), (89, .istore 6, 2), (91, .aload_n 0, 1), (92, .invokevirtual 145, 3), (95, .bipush 6, 2), (97, .irem, 1), (98, .istore 7, 2), (100, .aload_n 0, 1), (101, .iload 7, 2), (103, .iload 4, 2), (105, .iload 5, 2), (107, .iload 6, 2), (109, .aload_n 0, 1), (110, .invokevirtual 145, 3), (113, .bipush 8, 2), (115, .irem, 1), (116, .invokevirtual 100, 3), (119, .istore 8, 2), (121, .aload_n 0, 1), (122, .getfield 9, 3), (125, .iconst 2, 1), (127, .iaload, 1), (128, .iconst 1, 1), (129, .iadd, 1), (130, .iastore, 1), (131, .return_, 1)] : List (Nat × Jvm.ClassFile.Instr × Nat)), decode cX8_year q.1 = .ok q.2 := chk_ok _ 68 _ rfl (by decide +kernel)
theorem dX8_year_68 : decode cX8_year 68 = .ok (.istore 4, 2) := bdX8_year_68 (68, .istore 4, 2) (List.mem_of_getElem? (i := 0) rfl)
theorem dX8_year_70 : decode cX8_year 70 = .ok (.aload_n 0, 1) := bdX8_year_68 (70, .aload_n 0, 1) (List.mem_of_getElem? (i := 1) rfl)
theorem dX8_year_71 : decode cX8_year 71 = .ok (.iconst 1, 1) := bdX8_year_68 (71, .iconst 1, 1) (List.mem_of_getElem? (i := 2) rfl)
theorem dX8_year_72 : decode cX8_year 72 = .ok (.aload_n 0, 1) := bdX8_year_68 (72, .aload_n 0, 1) (List.mem_of_getElem? (i := 3) rfl)
theorem dX8_year_73 : decode cX8_year 73 = .ok (.invokevirtual 145, 3) := bdX8_year_68 (73, .invokevirtual 145, 3) (List.mem_of_getElem? (i := 4) rfl)
theorem dX8_year_76 : decode cX8_year 76 = .ok (.iload_n 3, 1) := bdX8_year_68 (76, .iload_n 3, 1) (List.mem_of_getElem? (i := 5) rfl)
theorem dX8_year_77 : decode cX8_year 77 = .ok (.irem, 1) := bdX8_year_68 (77, .irem, 1) (List.mem_of_getElem? (i := 6) rfl)
theorem dX8_year_78 : decode cX8_year 78 = .ok (.invokevirtual 152, 3) := bdX8_year_68 (78, .invokevirtual 152, 3) (List.mem_of_getElem? (i := 7) rfl)
theorem dX8_year_81 : decode cX8_year 81 = .ok (.istore 5, 2) := bdX8_year_68 (81, .istore 5, 2) (List.mem_of_getElem? (i := 8) rfl)
theorem dX8_year_83 : decode cX8_year 83 = .ok (.aload_n 0, 1) := bdX8_year_68 (83, .aload_n 0, 1) (List.mem_of_getElem? (i := 9) rfl)
theorem dX8_year_84 : decode cX8_year 84 = .ok (.invokevirtual 145, 3) := bdX8_year_68 (84, .invokevirtual 145, 3) (List.mem_of_getElem? (i := 10) rfl)
theorem dX8_year_87 : decode cX8_year 87 = .ok (.iconst 2, 1) := bdX8_year_68 (87, .iconst 2, 1) (List.mem_of_getElem? (i := 11) rfl)
theorem dX8_year_88 : decode cX8_year 88 = .ok (.irem, 1) := bdX8_year_68 (88, .irem, 1) (List.mem_of_getElem? (i := 12) rfl)
theorem dX8_year_89 : decode cX8_year 89 = .ok (.istore 6, 2) := bdX8_year_68 (89, .istore 6, 2) (List.mem_of_getElem? (i := 13) rfl)
theorem dX8_year_91 : decode cX8_year 91 = .ok (.aload_n 0, 1) := bdX8_year_68 (91, .aload_n 0, 1) (List.mem_of_getElem? (i := 14) rfl)
theorem dX8_year_92 : decode cX8_year 92 = .ok (.invokevirtual 145, 3) := bdX8_year_68 (92, .invokevirtual 145, 3) (List.mem_of_getElem? (i := 15) rfl)
theorem dX8_year_95 : decode cX8_year 95 = .ok (.bipush 6, 2) := bdX8_year_68 (95, .bipush 6, 2) (List.mem_of_getElem? (i := 16) rfl)
theorem dX8_year_97 : decode cX8_year 97 = .ok (.irem, 1) := bdX8_year_68 (97, .irem, 1) (List.mem_of_getElem? (i := 17) rfl)
theorem dX8_year_98 : decode cX8_year 98 = .ok (.istore 7, 2) := bdX8_year_68 (98, .istore 7, 2) (List.mem_of_getElem? (i := 18) rfl)
theorem dX8_year_100 : decode cX8_year 100 = .ok (.aload_n 0, 1) := bdX8_year_68 (100, .aload_n 0, 1) (List.mem_of_getElem? (i := 19) rfl)
theorem dX8_year_101 : decode cX8_year 101 = .ok (.iload 7, 2) := bdX8_year_68 (101, .iload 7, 2) (List.mem_of_getElem? (i := 20) rfl)
theorem dX8_year_103 : decode cX8_year 103 = .ok (.iload 4, 2) := bdX8_year_68 (103, .iload 4, 2) (List.mem_of_getElem? (i := 21) rfl)
theorem dX8_year_105 : decode cX8_year 105 = .ok (.iload 5, 2) := bdX8_year_68 (105, .iload 5, 2) (List.mem_of_getElem? (i := 22) rfl)
theorem dX8_year_107 : decode cX8_year 107 = .ok (.iload 6, 2) := bdX8_year_68 (107, .iload 6, 2) (List.mem_of_getElem? (i := 23) rfl)
theorem dX8_year_109 : decode cX8_year 109 = .ok (.aload_n 0, 1) := bdX8_year_68 (109, .aload_n 0, 1) (List.mem_of_getElem? (i := 24) rfl)
theorem dX8_year_110 : decode cX8_year 110 = .ok (.invokevirtual 145, 3) := bdX8_year_68 (110, .invokevirtual 145, 3) (List.mem_of_getElem? (i := 25) rfl)
theorem dX8_year_113 : decode cX8_year 113 = .ok (.bipush 8, 2) := bdX8_year_68 (113, .bipush 8, 2) (List.mem_of_getElem? (i := 26) rfl)
theorem dX8_year_115 : decode cX8_year 115 = .ok (.irem, 1) := bdX8_year_68 (115, .irem, 1) (List.mem_of_getElem? (i := 27) rfl)
theorem dX8_year_116 : decode cX8_year 116 = .ok (.invokevirtual 100, 3) := bdX8_year_68 (116, .invokevirtual 100, 3) (List.mem_of_getElem? (i := 28) rfl)
theorem dX8_year_119 : decode cX8_year 119 = .ok (.istore 8, 2) := bdX8_year_68 (119, .istore 8, 2) (List.mem_of_getElem? (i := 29) rfl)
theorem dX8_year_121 : decode cX8_year 121 = .ok (.aload_n 0, 1) := bdX8_year_68 (121, .aload_n 0, 1) (List.mem_of_getElem? (i := 30) rfl)
theorem dX8_year_122 : decode cX8_year 122 = .ok (.getfield 9, 3) := bdX8_year_68 (122, .getfield 9, 3) (List.mem_of_getElem? (i := 31) rfl)
theorem dX8_year_125 : decode cX8_year 125 = .ok (.iconst 2, 1) := bdX8_year_68 (125, .iconst 2, 1) (List.mem_of_getElem? (i := 32) rfl)
theorem dX8_year_127 : decode cX8_year 127 = .ok (.iaload, 1) := bdX8_year_68 (127, .iaload, 1) (List.mem_of_getElem? (i := 33) rfl)
theorem dX8_year_128 : decode cX8_year 128 = .ok (.iconst 1, 1) := bdX8_year_68 (128, .iconst 1, 1) (List.mem_of_getElem? (i := 34) rfl)
theorem dX8_year_129 : decode cX8_year 129 = .ok (.iadd, 1) := bdX8_year_68 (129, .iadd, 1) (List.mem_of_getElem? (i := 35) rfl)
theorem dX8_year_130 : decode cX8_year 130 = .ok (.iastore, 1) := bdX8_year_68 (130, .iastore, 1) (List.mem_of_getElem? (i := 36) rfl)
theorem dX8_year_131 : decode cX8_year 131 = .ok (.return_, 1) := bdX8_year_68 (131, .return_, 1) (List.mem_of_getElem? (i := 37) rfl)
theorem dX8_year_126 : decode cX8_year 126 = .ok (.dup2, 1) := by decide +kernel
theorem kX8_149 : mthV RX8 149 8 yX8_manyOf prog_10_method_31_code 4 (Option.some Jvm.ClassFile.FieldType.int) 1 := ⟨⟨⟨tw_1169, tw_67, tw_1172⟩, rfl, by decide +kernel⟩, tw_1171, tw_39, rfl⟩
theorem kX8_152 : mthV RX8 152 8 yX8_numberOf prog_10_method_32_code 5 (Option.some Jvm.ClassFile.FieldType.int) 2 := ⟨⟨⟨tw_1173, tw_67, tw_1176⟩, rfl, by decide +kernel⟩, tw_1175, tw_40, rfl⟩
def BX8_year_121 (ln : Nat → Nat) (post : HC → Prop) (S : HC) (x0 : Nat) : Prop := dn_ (hR S x0 0) fun b1 => al_ (ln b1) (2 : Int32) (hI S b1) fun z2 => lt_ (z2 + (1 : Int32)) fun z3 => as_ (ln b1) (2 : Int32) (fun j => sI S b1 j z3) fun S => post S
def BX8_year_21 (ln : Nat → Nat) (post : HC → Prop) (S : HC) (x0 : Nat) (t0 : Int32) : Prop := wpX8_manyOf ln S x0 (0 : Int32) fun z4 S => wpX8_manyOf ln S x0 (1 : Int32) fun z5 S => if t0 = 0 then (BX8_year_121 ln post S x0) else (dn_ (hR S x0 0) fun b6 => al_ (ln b6) (1 : Int32) (hI S b6) fun z7 => if (14 : Int32) ≤ z7 then (BX8_year_121 ln post S x0) else (if z4 ≤ 0 then (BX8_year_121 ln post S x0) else (if z5 ≤ 0 then (BX8_year_121 ln post S x0) else (wpX8_draw ln S x0 fun z8 S => ne_ z4 <| lt_ (z8 - z8 / z4 * z4) fun z9 => wpX8_numberOf ln S x0 (0 : Int32) z9 fun z10 S => wpX8_draw ln S x0 fun z11 S => ne_ z5 <| lt_ (z11 - z11 / z5 * z5) fun z12 => wpX8_numberOf ln S x0 (1 : Int32) z12 fun z13 S => wpX8_draw ln S x0 fun z14 S => ne_ (2 : Int32) <| lt_ (z14 - z14 / (2 : Int32) * (2 : Int32)) fun z15 => wpX8_draw ln S x0 fun z16 S => ne_ (6 : Int32) <| lt_ (z16 - z16 / (6 : Int32) * (6 : Int32)) fun z17 => wpX8_draw ln S x0 fun z18 S => ne_ (8 : Int32) <| lt_ (z18 - z18 / (8 : Int32) * (8 : Int32)) fun z19 => wpX8_comes ln S x0 z17 z10 z13 z15 z19 fun z20 S => BX8_year_121 ln post S x0))))
def wpX8_year (ln : Nat → Nat) (S : HC) (a0 : Nat) (post : HC → Prop) : Prop := wpX8_draw ln S a0 fun z21 S => ne_ (100 : Int32) <| lt_ (z21 - z21 / (100 : Int32) * (100 : Int32)) fun z22 => dn_ (hR S a0 0) fun b23 => al_ (ln b23) (3 : Int32) (hI S b23) fun z24 => if z24 ≤ z22 then (BX8_year_21 ln post S a0 (0 : Int32)) else (BX8_year_21 ln post S a0 (1 : Int32))
abbrev rmX8_year : Room := { frames := 2, cells := 0, slots := 0, locals := 46 }
set_option maxHeartbeats 4000000 in
set_option maxRecDepth 100000 in
theorem ctX8_year {l : Launch} {g : GX} {N : Nat} {ln : Nat → Nat} {S : HC} {a0 : Nat} {post : HC → Prop} (hr_a0 : a0 < N) (hk_a0 : kd a0 = 8) (h : wpX8_year ln S a0 post) : Met l yX8_year (Cond.code yX8_year prog_10_method_33_code 9 (Option.none : Option Jvm.ClassFile.FieldType) :: gtbl) rmX8_year (va_Pc [.ref (gz g + a0)] (AtP g N ln S)) (QV g N ln post) 0 0 (gF g) := by
  refine m_of (by decide) (Nat.le_of_ble_eq_true rfl) ?_
  intro p e s m below meth c ls F hr I hl
  have hl : lv_has ls 9 [(0, .ref (gz g + a0))] := hl
  unfold wpX8_year at h
  have hj_121 : ∀ (S : HC) (H : Heap) (locs : List Loc) (ls : Array Slot) (x0 : Nat), x0 < N → kd x0 = 8 → BX8_year_121 ln post S x0 → Inv g N ln S s H locs → lv_has ls 9 [(0, .ref (gz g + x0))] → W p l e rmX8_year s m ([.ref (gz g + a0)] : List Value).toArray below meth c H locs 0 0 (MQ below (QV g N ln post) ([.ref (gz g + a0)] : List Value).toArray s 0 0 (gF g)) (F0 m 121 ls []) := by
    intro S H locs ls x0 hr_x0 hk_x0 h I hl
    unfold BX8_year_121 at h
    refine lv_aload_n F.1 F.2.1 dX8_year_121 rfl (lv_at hl 0 rfl) ?_
    refine r_getN F I hr_x0 hk_x0 fX8_9 (f := 9) rfl (by decide) dX8_year_122 h (fun b1 hr_b1 hk_b1 h => ?_)
    refine lv_iconst (v := 2) F.1 F.2.1 dX8_year_125 (by decide) ?_
    refine lv_dup2_11 F.1 F.2.1 dX8_year_126 rfl rfl ?_
    refine r_ald F I hr_b1 hk_b1 dX8_year_127 h (fun z2 h => ?_)
    refine lv_iconst (v := 1) F.1 F.2.1 dX8_year_128 (by decide) ?_
    refine r_iadd F dX8_year_129 h (fun z3 h => ?_)
    refine r_ast F I hr_b1 hk_b1 dX8_year_130 h (fun S H locs I h => ?_)
    exact r_vreturn F I ⟨hr.1, hr.2.1, trivial⟩ h dX8_year_131
  have hj_21 : ∀ (S : HC) (H : Heap) (locs : List Loc) (ls : Array Slot) (x0 : Nat) (t0 : Int32), x0 < N → kd x0 = 8 → BX8_year_21 ln post S x0 t0 → Inv g N ln S s H locs → lv_has ls 9 [(0, .ref (gz g + x0))] → W p l e rmX8_year s m ([.ref (gz g + a0)] : List Value).toArray below meth c H locs 0 0 (MQ below (QV g N ln post) ([.ref (gz g + a0)] : List Value).toArray s 0 0 (gF g)) (F0 m 21 ls [.int t0]) := by
    intro S H locs ls x0 t0 hr_x0 hk_x0 h I hl
    unfold BX8_year_21 at h
    refine lv_istore_n (lv' := [(1, .int t0), (0, .ref (gz g + x0))]) F.1 F.2.1 dX8_year_21 rfl hl (by decide) rfl (fun ls hl => ?_)
    refine lv_aload_n F.1 F.2.1 dX8_year_22 rfl (lv_at hl 1 rfl) ?_
    refine lv_iconst (v := 0) F.1 F.2.1 dX8_year_23 (by decide) ?_
    refine g_I I (run_V (As := [.int (0 : Int32)]) (rest := []) F I hr_x0 hk_x0 (by decide) kX8_149 (ctX8_manyOf hr_x0 hk_x0 h) ⟨rfl, rfl⟩ ⟨Nat.le_of_ble_eq_true rfl, Nat.le_of_ble_eq_true rfl⟩ rfl hl.1 rfl (Nat.le_of_ble_eq_true rfl) ⟨Nat.le_of_ble_eq_true rfl, Nat.le_of_ble_eq_true rfl⟩ dX8_year_24) (fun z4 S H locs I h => ?_)
    refine lv_istore_n (lv' := [(2, .int z4), (1, .int t0), (0, .ref (gz g + x0))]) F.1 F.2.1 dX8_year_27 rfl hl (by decide) rfl (fun ls hl => ?_)
    refine lv_aload_n F.1 F.2.1 dX8_year_28 rfl (lv_at hl 2 rfl) ?_
    refine lv_iconst (v := 1) F.1 F.2.1 dX8_year_29 (by decide) ?_
    refine g_I I (run_V (As := [.int (1 : Int32)]) (rest := []) F I hr_x0 hk_x0 (by decide) kX8_149 (ctX8_manyOf hr_x0 hk_x0 h) ⟨rfl, rfl⟩ ⟨Nat.le_of_ble_eq_true rfl, Nat.le_of_ble_eq_true rfl⟩ rfl hl.1 rfl (Nat.le_of_ble_eq_true rfl) ⟨Nat.le_of_ble_eq_true rfl, Nat.le_of_ble_eq_true rfl⟩ dX8_year_30) (fun z5 S H locs I h => ?_)
    refine lv_istore_n (lv' := [(3, .int z5), (2, .int z4), (1, .int t0), (0, .ref (gz g + x0))]) F.1 F.2.1 dX8_year_33 rfl hl (by decide) rfl (fun ls hl => ?_)
    refine lv_iload_n F.1 F.2.1 dX8_year_34 rfl (lv_at hl 2 rfl) ?_
    refine r_if_eq (tgt := 121) F dX8_year_35 (by decide) h (fun h => ?_) (fun h => ?_)
    · exact hj_121 S _ _ _ x0 hr_x0 hk_x0 h I (lv_sub hl [3] rfl)
    · refine lv_aload_n F.1 F.2.1 dX8_year_38 rfl (lv_at hl 3 rfl) ?_
      refine r_getN F I hr_x0 hk_x0 fX8_9 (f := 9) rfl (by decide) dX8_year_39 h (fun b6 hr_b6 hk_b6 h => ?_)
      refine lv_iconst (v := 1) F.1 F.2.1 dX8_year_42 (by decide) ?_
      refine r_ald F I hr_b6 hk_b6 dX8_year_43 h (fun z7 h => ?_)
      refine lv_bipush (v := 14) F.1 F.2.1 dX8_year_44 (by decide) ?_
      refine r_icmp_ge (tgt := 121) F dX8_year_46 (by decide) h (fun h => ?_) (fun h => ?_)
      · exact hj_121 S _ _ _ x0 hr_x0 hk_x0 h I (lv_sub hl [3] rfl)
      · refine lv_iload_n F.1 F.2.1 dX8_year_49 rfl (lv_at hl 1 rfl) ?_
        refine r_if_le (tgt := 121) F dX8_year_50 (by decide) h (fun h => ?_) (fun h => ?_)
        · exact hj_121 S _ _ _ x0 hr_x0 hk_x0 h I (lv_sub hl [3] rfl)
        · refine lv_iload_n F.1 F.2.1 dX8_year_53 rfl (lv_at hl 0 rfl) ?_
          refine r_if_le (tgt := 121) F dX8_year_54 (by decide) h (fun h => ?_) (fun h => ?_)
          · exact hj_121 S _ _ _ x0 hr_x0 hk_x0 h I (lv_sub hl [3] rfl)
          · refine lv_aload_n F.1 F.2.1 dX8_year_57 rfl (lv_at hl 3 rfl) ?_
            refine lv_iconst (v := 0) F.1 F.2.1 dX8_year_58 (by decide) ?_
            refine lv_aload_n F.1 F.2.1 dX8_year_59 rfl (lv_at hl 3 rfl) ?_
            refine g_I I (run_V (As := []) (rest := [.int (0 : Int32), .ref (gz g + x0)]) F I hr_x0 hk_x0 (by decide) kX8_145 (ctX8_draw hr_x0 hk_x0 h) ⟨rfl, rfl⟩ ⟨Nat.le_of_ble_eq_true rfl, Nat.le_of_ble_eq_true rfl⟩ rfl hl.1 rfl (Nat.le_of_ble_eq_true rfl) ⟨Nat.le_of_ble_eq_true rfl, Nat.le_of_ble_eq_true rfl⟩ dX8_year_60) (fun z8 S H locs I h => ?_)
            refine lv_iload_n F.1 F.2.1 dX8_year_63 rfl (lv_at hl 1 rfl) ?_
            refine r_irem F dX8_year_64 h (fun z9 h => ?_)
            refine g_I I (run_V (As := [.int (0 : Int32), .int z9]) (rest := []) F I hr_x0 hk_x0 (by decide) kX8_152 (ctX8_numberOf hr_x0 hk_x0 h) ⟨rfl, rfl⟩ ⟨Nat.le_of_ble_eq_true rfl, Nat.le_of_ble_eq_true rfl⟩ rfl hl.1 rfl (Nat.le_of_ble_eq_true rfl) ⟨Nat.le_of_ble_eq_true rfl, Nat.le_of_ble_eq_true rfl⟩ dX8_year_65) (fun z10 S H locs I h => ?_)
            refine lv_istore (lv' := [(4, .int z10), (3, .int z5), (2, .int z4), (1, .int t0), (0, .ref (gz g + x0))]) F.1 F.2.1 dX8_year_68 hl (by decide) rfl (fun ls hl => ?_)
            refine lv_aload_n F.1 F.2.1 dX8_year_70 rfl (lv_at hl 4 rfl) ?_
            refine lv_iconst (v := 1) F.1 F.2.1 dX8_year_71 (by decide) ?_
            refine lv_aload_n F.1 F.2.1 dX8_year_72 rfl (lv_at hl 4 rfl) ?_
            refine g_I I (run_V (As := []) (rest := [.int (1 : Int32), .ref (gz g + x0)]) F I hr_x0 hk_x0 (by decide) kX8_145 (ctX8_draw hr_x0 hk_x0 h) ⟨rfl, rfl⟩ ⟨Nat.le_of_ble_eq_true rfl, Nat.le_of_ble_eq_true rfl⟩ rfl hl.1 rfl (Nat.le_of_ble_eq_true rfl) ⟨Nat.le_of_ble_eq_true rfl, Nat.le_of_ble_eq_true rfl⟩ dX8_year_73) (fun z11 S H locs I h => ?_)
            refine lv_iload_n F.1 F.2.1 dX8_year_76 rfl (lv_at hl 1 rfl) ?_
            refine r_irem F dX8_year_77 h (fun z12 h => ?_)
            refine g_I I (run_V (As := [.int (1 : Int32), .int z12]) (rest := []) F I hr_x0 hk_x0 (by decide) kX8_152 (ctX8_numberOf hr_x0 hk_x0 h) ⟨rfl, rfl⟩ ⟨Nat.le_of_ble_eq_true rfl, Nat.le_of_ble_eq_true rfl⟩ rfl hl.1 rfl (Nat.le_of_ble_eq_true rfl) ⟨Nat.le_of_ble_eq_true rfl, Nat.le_of_ble_eq_true rfl⟩ dX8_year_78) (fun z13 S H locs I h => ?_)
            refine lv_istore (lv' := [(5, .int z13), (4, .int z10), (3, .int z5), (2, .int z4), (1, .int t0), (0, .ref (gz g + x0))]) F.1 F.2.1 dX8_year_81 hl (by decide) rfl (fun ls hl => ?_)
            refine lv_aload_n F.1 F.2.1 dX8_year_83 rfl (lv_at hl 5 rfl) ?_
            refine g_I I (run_V (As := []) (rest := []) F I hr_x0 hk_x0 (by decide) kX8_145 (ctX8_draw hr_x0 hk_x0 h) ⟨rfl, rfl⟩ ⟨Nat.le_of_ble_eq_true rfl, Nat.le_of_ble_eq_true rfl⟩ rfl hl.1 rfl (Nat.le_of_ble_eq_true rfl) ⟨Nat.le_of_ble_eq_true rfl, Nat.le_of_ble_eq_true rfl⟩ dX8_year_84) (fun z14 S H locs I h => ?_)
            refine lv_iconst (v := 2) F.1 F.2.1 dX8_year_87 (by decide) ?_
            refine r_irem F dX8_year_88 h (fun z15 h => ?_)
            refine lv_istore (lv' := [(6, .int z15), (5, .int z13), (4, .int z10), (3, .int z5), (2, .int z4), (1, .int t0), (0, .ref (gz g + x0))]) F.1 F.2.1 dX8_year_89 hl (by decide) rfl (fun ls hl => ?_)
            refine lv_aload_n F.1 F.2.1 dX8_year_91 rfl (lv_at hl 6 rfl) ?_
            refine g_I I (run_V (As := []) (rest := []) F I hr_x0 hk_x0 (by decide) kX8_145 (ctX8_draw hr_x0 hk_x0 h) ⟨rfl, rfl⟩ ⟨Nat.le_of_ble_eq_true rfl, Nat.le_of_ble_eq_true rfl⟩ rfl hl.1 rfl (Nat.le_of_ble_eq_true rfl) ⟨Nat.le_of_ble_eq_true rfl, Nat.le_of_ble_eq_true rfl⟩ dX8_year_92) (fun z16 S H locs I h => ?_)
            refine lv_bipush (v := 6) F.1 F.2.1 dX8_year_95 (by decide) ?_
            refine r_irem F dX8_year_97 h (fun z17 h => ?_)
            refine lv_istore (lv' := [(7, .int z17), (6, .int z15), (5, .int z13), (4, .int z10), (3, .int z5), (2, .int z4), (1, .int t0), (0, .ref (gz g + x0))]) F.1 F.2.1 dX8_year_98 hl (by decide) rfl (fun ls hl => ?_)
            refine lv_aload_n F.1 F.2.1 dX8_year_100 rfl (lv_at hl 7 rfl) ?_
            refine lv_iload F.1 F.2.1 dX8_year_101 (lv_at hl 0 rfl) ?_
            refine lv_iload F.1 F.2.1 dX8_year_103 (lv_at hl 3 rfl) ?_
            refine lv_iload F.1 F.2.1 dX8_year_105 (lv_at hl 2 rfl) ?_
            refine lv_iload F.1 F.2.1 dX8_year_107 (lv_at hl 1 rfl) ?_
            refine lv_aload_n F.1 F.2.1 dX8_year_109 rfl (lv_at hl 7 rfl) ?_
            refine g_I I (run_V (As := []) (rest := [.int z15, .int z13, .int z10, .int z17, .ref (gz g + x0)]) F I hr_x0 hk_x0 (by decide) kX8_145 (ctX8_draw hr_x0 hk_x0 h) ⟨rfl, rfl⟩ ⟨Nat.le_of_ble_eq_true rfl, Nat.le_of_ble_eq_true rfl⟩ rfl hl.1 rfl (Nat.le_of_ble_eq_true rfl) ⟨Nat.le_of_ble_eq_true rfl, Nat.le_of_ble_eq_true rfl⟩ dX8_year_110) (fun z18 S H locs I h => ?_)
            refine lv_bipush (v := 8) F.1 F.2.1 dX8_year_113 (by decide) ?_
            refine r_irem F dX8_year_115 h (fun z19 h => ?_)
            refine g_I I (run_V (As := [.int z17, .int z10, .int z13, .int z15, .int z19]) (rest := []) F I hr_x0 hk_x0 (by decide) kX8_100 (ctX8_comes hr_x0 hk_x0 h) ⟨rfl, rfl⟩ ⟨Nat.le_of_ble_eq_true rfl, Nat.le_of_ble_eq_true rfl⟩ rfl hl.1 rfl (Nat.le_of_ble_eq_true rfl) ⟨Nat.le_of_ble_eq_true rfl, Nat.le_of_ble_eq_true rfl⟩ dX8_year_116) (fun z20 S H locs I h => ?_)
            refine lv_istore (lv' := [(8, .int z20), (7, .int z17), (6, .int z15), (5, .int z13), (4, .int z10), (3, .int z5), (2, .int z4), (1, .int t0), (0, .ref (gz g + x0))]) F.1 F.2.1 dX8_year_119 hl (by decide) rfl (fun ls hl => ?_)
            exact hj_121 S _ _ _ x0 hr_x0 hk_x0 h I (lv_sub hl [8] rfl)
  refine lv_aload_n F.1 F.2.1 dX8_year_0 rfl (lv_at hl 0 rfl) ?_
  refine g_I I (run_V (As := []) (rest := []) F I hr_a0 hk_a0 (by decide) kX8_145 (ctX8_draw hr_a0 hk_a0 h) ⟨rfl, rfl⟩ ⟨Nat.le_of_ble_eq_true rfl, Nat.le_of_ble_eq_true rfl⟩ rfl hl.1 rfl (Nat.le_of_ble_eq_true rfl) ⟨Nat.le_of_ble_eq_true rfl, Nat.le_of_ble_eq_true rfl⟩ dX8_year_1) (fun z21 S H locs I h => ?_)
  refine lv_bipush (v := 100) F.1 F.2.1 dX8_year_4 (by decide) ?_
  refine r_irem F dX8_year_6 h (fun z22 h => ?_)
  refine lv_aload_n F.1 F.2.1 dX8_year_7 rfl (lv_at hl 0 rfl) ?_
  refine r_getN F I hr_a0 hk_a0 fX8_9 (f := 9) rfl (by decide) dX8_year_8 h (fun b23 hr_b23 hk_b23 h => ?_)
  refine lv_iconst (v := 3) F.1 F.2.1 dX8_year_11 (by decide) ?_
  refine r_ald F I hr_b23 hk_b23 dX8_year_12 h (fun z24 h => ?_)
  refine r_icmp_ge (tgt := 20) F dX8_year_13 (by decide) h (fun h => ?_) (fun h => ?_)
  · refine lv_iconst (v := 0) F.1 F.2.1 dX8_year_20 (by decide) ?_
    exact hj_21 S _ _ _ a0 (0 : Int32) hr_a0 hk_a0 h I (lv_sub hl [0] rfl)
  · refine lv_iconst (v := 1) F.1 F.2.1 dX8_year_16 (by decide) ?_
    refine lv_goto (tgt := 21) F.1 F.2.1 dX8_year_17 (by decide) ?_
    exact hj_21 S _ _ _ a0 (1 : Int32) hr_a0 hk_a0 h I (lv_sub hl [0] rfl)
theorem bdX8_goesOn_0 : ∀ q ∈ ([(0, .iconst 0, 1), (1, .istore_n 2, 1), (2, .iload_n 2, 1), (3, .iload_n 1, 1), (4, .if_icmp .ge 13, 3), (7, .aload_n 0, 1), (8, .invokevirtual 155, 3), (11, .iinc 2 1, 3), (14, .goto (-12), 3), (17, .return_, 1)] : List (Nat × Jvm.ClassFile.Instr × Nat)), decode cX8_goesOn q.1 = .ok q.2 := chk_ok _ 0 _ rfl (by decide +kernel)
theorem dX8_goesOn_0 : decode cX8_goesOn 0 = .ok (.iconst 0, 1) := bdX8_goesOn_0 (0, .iconst 0, 1) (List.mem_of_getElem? (i := 0) rfl)
theorem dX8_goesOn_1 : decode cX8_goesOn 1 = .ok (.istore_n 2, 1) := bdX8_goesOn_0 (1, .istore_n 2, 1) (List.mem_of_getElem? (i := 1) rfl)
theorem dX8_goesOn_2 : decode cX8_goesOn 2 = .ok (.iload_n 2, 1) := bdX8_goesOn_0 (2, .iload_n 2, 1) (List.mem_of_getElem? (i := 2) rfl)
theorem dX8_goesOn_3 : decode cX8_goesOn 3 = .ok (.iload_n 1, 1) := bdX8_goesOn_0 (3, .iload_n 1, 1) (List.mem_of_getElem? (i := 3) rfl)
theorem dX8_goesOn_4 : decode cX8_goesOn 4 = .ok (.if_icmp .ge 13, 3) := bdX8_goesOn_0 (4, .if_icmp .ge 13, 3) (List.mem_of_getElem? (i := 4) rfl)
theorem dX8_goesOn_7 : decode cX8_goesOn 7 = .ok (.aload_n 0, 1) := bdX8_goesOn_0 (7, .aload_n 0, 1) (List.mem_of_getElem? (i := 5) rfl)
theorem dX8_goesOn_8 : decode cX8_goesOn 8 = .ok (.invokevirtual 155, 3) := bdX8_goesOn_0 (8, .invokevirtual 155, 3) (List.mem_of_getElem? (i := 6) rfl)
theorem dX8_goesOn_11 : decode cX8_goesOn 11 = .ok (.iinc 2 1, 3) := bdX8_goesOn_0 (11, .iinc 2 1, 3) (List.mem_of_getElem? (i := 7) rfl)
theorem dX8_goesOn_14 : decode cX8_goesOn 14 = .ok (.goto (-12), 3) := bdX8_goesOn_0 (14, .goto (-12), 3) (List.mem_of_getElem? (i := 8) rfl)
theorem dX8_goesOn_17 : decode cX8_goesOn 17 = .ok (.return_, 1) := bdX8_goesOn_0 (17, .return_, 1) (List.mem_of_getElem? (i := 9) rfl)
theorem kX8_155 : mthV RX8 155 8 yX8_year prog_10_method_33_code 9 (Option.none : Option Jvm.ClassFile.FieldType) 0 := ⟨⟨⟨tw_1165, tw_67, tw_1168⟩, rfl, by decide +kernel⟩, tw_1167, tw_38, rfl⟩
def LX8_goesOn_2 (ln : Nat → Nat) (post : HC → Prop) : Nat → HC → Nat → Int32 → Int32 → Prop
  | 0 => fun _ _ _ _ => False
  | n2 + 1 => fun S x0 x1 x2 => if x1 ≤ x2 then (post S) else (wpX8_year ln S x0 fun S => lt_ (x2 + (1 : Int32)) fun z1 => (LX8_goesOn_2 ln post n2) S x0 x1 z1)
def wpX8_goesOn (ln : Nat → Nat) (S : HC) (a0 : Nat) (a1 : Int32) (post : HC → Prop) : Prop := ∃ n2, LX8_goesOn_2 ln post n2 S a0 a1 (0 : Int32)
abbrev rmX8_goesOn : Room := { frames := 3, cells := 0, slots := 0, locals := 74 }
set_option maxHeartbeats 4000000 in
set_option maxRecDepth 100000 in
theorem ctX8_goesOn {l : Launch} {g : GX} {N : Nat} {ln : Nat → Nat} {S : HC} {a0 : Nat} {a1 : Int32} {post : HC → Prop} (hr_a0 : a0 < N) (hk_a0 : kd a0 = 8) (h : wpX8_goesOn ln S a0 a1 post) : Met l yX8_goesOn (Cond.code yX8_goesOn prog_10_method_34_code 3 (Option.none : Option Jvm.ClassFile.FieldType) :: gtbl) rmX8_goesOn (va_Pc [.ref (gz g + a0), .int a1] (AtP g N ln S)) (QV g N ln post) 0 0 (gF g) := by
  refine m_of (by decide) (Nat.le_of_ble_eq_true rfl) ?_
  intro p e s m below meth c ls F hr I hl
  have hl : lv_has ls 3 [(0, .ref (gz g + a0)), (1, .int a1)] := hl
  unfold wpX8_goesOn at h
  have hl_2 : ∀ n2 : Nat, ∀ (S : HC) (H : Heap) (locs : List Loc) (ls : Array Slot) (x0 : Nat) (x1 : Int32) (x2 : Int32), x0 < N → kd x0 = 8 → LX8_goesOn_2 ln post n2 S x0 x1 x2 → Inv g N ln S s H locs → lv_has ls 3 [(0, .ref (gz g + x0)), (1, .int x1), (2, .int x2)] → W p l e rmX8_goesOn s m ([.ref (gz g + a0), .int a1] : List Value).toArray below meth c H locs 0 0 (MQ below (QV g N ln post) ([.ref (gz g + a0), .int a1] : List Value).toArray s 0 0 (gF g)) (F0 m 2 ls []) := by
    intro n2
    induction n2 with
    | zero =>
      intro S H locs ls x0 x1 x2 hr_x0 hk_x0 h I hl
      exact h.elim
    | succ n2 ih =>
      have hk2 := ih
      intro S H locs ls x0 x1 x2 hr_x0 hk_x0 h I hl
      rw [LX8_goesOn_2] at h
      refine lv_iload_n F.1 F.2.1 dX8_goesOn_2 rfl (lv_at hl 2 rfl) ?_
      refine lv_iload_n F.1 F.2.1 dX8_goesOn_3 rfl (lv_at hl 1 rfl) ?_
      refine r_icmp_ge (tgt := 17) F dX8_goesOn_4 (by decide) h (fun h => ?_) (fun h => ?_)
      · exact r_vreturn F I ⟨hr.1, hr.2.1, trivial⟩ h dX8_goesOn_17
      · refine lv_aload_n F.1 F.2.1 dX8_goesOn_7 rfl (lv_at hl 0 rfl) ?_
        refine g_V I (run_V (As := []) (rest := []) F I hr_x0 hk_x0 (by decide) kX8_155 (ctX8_year hr_x0 hk_x0 h) ⟨rfl, rfl⟩ ⟨Nat.le_of_ble_eq_true rfl, Nat.le_of_ble_eq_true rfl⟩ rfl hl.1 rfl (Nat.le_of_ble_eq_true rfl) ⟨Nat.le_of_ble_eq_true rfl, Nat.le_of_ble_eq_true rfl⟩ dX8_goesOn_8) (fun S H locs I h => ?_)
        obtain ⟨z1, e_z1, h⟩ := lt_x h
        refine lv_iinc (v := z1) (lv' := [(2, .int z1), (0, .ref (gz g + x0)), (1, .int x1)]) F.1 F.2.1 dX8_goesOn_11 hl (k := 2) rfl (by rw [e_z1]; rfl) (by decide) rfl (fun ls hl => ?_)
        refine lv_goto (tgt := 2) F.1 F.2.1 dX8_goesOn_14 (by decide) ?_
        exact hk2 S _ _ _ x0 x1 z1 hr_x0 hk_x0 h I (lv_sub hl [1, 2, 0] rfl)
  refine lv_iconst (v := 0) F.1 F.2.1 dX8_goesOn_0 (by decide) ?_
  refine lv_istore_n (lv' := [(2, .int (0 : Int32)), (0, .ref (gz g + a0)), (1, .int a1)]) F.1 F.2.1 dX8_goesOn_1 rfl hl (by decide) rfl (fun ls hl => ?_)
  obtain ⟨n2, h⟩ := h
  exact hl_2 n2 S _ _ _ a0 a1 (0 : Int32) hr_a0 hk_a0 h I (lv_sub hl [1, 2, 0] rfl)
theorem bdX8_years_0 : ∀ q ∈ ([(0, .iload_n 1, 1), (1, .iconst 1, 1), (2, .bipush 100, 2), (4, .invokestatic 79, 3), (7, .ifCond .ne 6, 3), (10, .ldc 98, 2), (12, .ireturn, 1), (13, .aload_n 0, 1), (14, .getfield 9, 3), (17, .iconst 1, 1), (18, .iaload, 1), (19, .istore_n 2, 1), (20, .aload_n 0, 1), (21, .sipush 9999, 3), (24, .aload_n 0, 1), (25, .getfield 9, 3), (28, .iconst 2, 1), (29, .iaload, 1), (30, .isub, 1), (31, .iconst 0, 1), (32, .iload_n 1, 1), (33, .invokestatic 117, 3), (36, .invokevirtual 158, 3), (39, .aload_n 0, 1), (40, .getfield 9, 3), (43, .iconst 1, 1), (44, .iaload, 1), (45, .iload_n 2, 1), (46, .isub, 1), (47, .ireturn, 1)] : List (Nat × Jvm.ClassFile.Instr × Nat)), decode cX8_years q.1 = .ok q.2 := chk_ok _ 0 _ rfl (by decide +kernel)
theorem dX8_years_0 : decode cX8_years 0 = .ok (.iload_n 1, 1) := bdX8_years_0 (0, .iload_n 1, 1) (List.mem_of_getElem? (i := 0) rfl)
theorem dX8_years_1 : decode cX8_years 1 = .ok (.iconst 1, 1) := bdX8_years_0 (1, .iconst 1, 1) (List.mem_of_getElem? (i := 1) rfl)
theorem dX8_years_2 : decode cX8_years 2 = .ok (.bipush 100, 2) := bdX8_years_0 (2, .bipush 100, 2) (List.mem_of_getElem? (i := 2) rfl)
theorem dX8_years_4 : decode cX8_years 4 = .ok (.invokestatic 79, 3) := bdX8_years_0 (4, .invokestatic 79, 3) (List.mem_of_getElem? (i := 3) rfl)
theorem dX8_years_7 : decode cX8_years 7 = .ok (.ifCond .ne 6, 3) := bdX8_years_0 (7, .ifCond .ne 6, 3) (List.mem_of_getElem? (i := 4) rfl)
theorem dX8_years_10 : decode cX8_years 10 = .ok (.ldc 98, 2) := bdX8_years_0 (10, .ldc 98, 2) (List.mem_of_getElem? (i := 5) rfl)
theorem dX8_years_12 : decode cX8_years 12 = .ok (.ireturn, 1) := bdX8_years_0 (12, .ireturn, 1) (List.mem_of_getElem? (i := 6) rfl)
theorem dX8_years_13 : decode cX8_years 13 = .ok (.aload_n 0, 1) := bdX8_years_0 (13, .aload_n 0, 1) (List.mem_of_getElem? (i := 7) rfl)
theorem dX8_years_14 : decode cX8_years 14 = .ok (.getfield 9, 3) := bdX8_years_0 (14, .getfield 9, 3) (List.mem_of_getElem? (i := 8) rfl)
theorem dX8_years_17 : decode cX8_years 17 = .ok (.iconst 1, 1) := bdX8_years_0 (17, .iconst 1, 1) (List.mem_of_getElem? (i := 9) rfl)
theorem dX8_years_18 : decode cX8_years 18 = .ok (.iaload, 1) := bdX8_years_0 (18, .iaload, 1) (List.mem_of_getElem? (i := 10) rfl)
theorem dX8_years_19 : decode cX8_years 19 = .ok (.istore_n 2, 1) := bdX8_years_0 (19, .istore_n 2, 1) (List.mem_of_getElem? (i := 11) rfl)
theorem dX8_years_20 : decode cX8_years 20 = .ok (.aload_n 0, 1) := bdX8_years_0 (20, .aload_n 0, 1) (List.mem_of_getElem? (i := 12) rfl)
theorem dX8_years_21 : decode cX8_years 21 = .ok (.sipush 9999, 3) := bdX8_years_0 (21, .sipush 9999, 3) (List.mem_of_getElem? (i := 13) rfl)
theorem dX8_years_24 : decode cX8_years 24 = .ok (.aload_n 0, 1) := bdX8_years_0 (24, .aload_n 0, 1) (List.mem_of_getElem? (i := 14) rfl)
theorem dX8_years_25 : decode cX8_years 25 = .ok (.getfield 9, 3) := bdX8_years_0 (25, .getfield 9, 3) (List.mem_of_getElem? (i := 15) rfl)
theorem dX8_years_28 : decode cX8_years 28 = .ok (.iconst 2, 1) := bdX8_years_0 (28, .iconst 2, 1) (List.mem_of_getElem? (i := 16) rfl)
theorem dX8_years_29 : decode cX8_years 29 = .ok (.iaload, 1) := bdX8_years_0 (29, .iaload, 1) (List.mem_of_getElem? (i := 17) rfl)
theorem dX8_years_30 : decode cX8_years 30 = .ok (.isub, 1) := bdX8_years_0 (30, .isub, 1) (List.mem_of_getElem? (i := 18) rfl)
theorem dX8_years_31 : decode cX8_years 31 = .ok (.iconst 0, 1) := bdX8_years_0 (31, .iconst 0, 1) (List.mem_of_getElem? (i := 19) rfl)
theorem dX8_years_32 : decode cX8_years 32 = .ok (.iload_n 1, 1) := bdX8_years_0 (32, .iload_n 1, 1) (List.mem_of_getElem? (i := 20) rfl)
theorem dX8_years_33 : decode cX8_years 33 = .ok (.invokestatic 117, 3) := bdX8_years_0 (33, .invokestatic 117, 3) (List.mem_of_getElem? (i := 21) rfl)
theorem dX8_years_36 : decode cX8_years 36 = .ok (.invokevirtual 158, 3) := bdX8_years_0 (36, .invokevirtual 158, 3) (List.mem_of_getElem? (i := 22) rfl)
theorem dX8_years_39 : decode cX8_years 39 = .ok (.aload_n 0, 1) := bdX8_years_0 (39, .aload_n 0, 1) (List.mem_of_getElem? (i := 23) rfl)
theorem dX8_years_40 : decode cX8_years 40 = .ok (.getfield 9, 3) := bdX8_years_0 (40, .getfield 9, 3) (List.mem_of_getElem? (i := 24) rfl)
theorem dX8_years_43 : decode cX8_years 43 = .ok (.iconst 1, 1) := bdX8_years_0 (43, .iconst 1, 1) (List.mem_of_getElem? (i := 25) rfl)
theorem dX8_years_44 : decode cX8_years 44 = .ok (.iaload, 1) := bdX8_years_0 (44, .iaload, 1) (List.mem_of_getElem? (i := 26) rfl)
theorem dX8_years_45 : decode cX8_years 45 = .ok (.iload_n 2, 1) := bdX8_years_0 (45, .iload_n 2, 1) (List.mem_of_getElem? (i := 27) rfl)
theorem dX8_years_46 : decode cX8_years 46 = .ok (.isub, 1) := bdX8_years_0 (46, .isub, 1) (List.mem_of_getElem? (i := 28) rfl)
theorem dX8_years_47 : decode cX8_years 47 = .ok (.ireturn, 1) := bdX8_years_0 (47, .ireturn, 1) (List.mem_of_getElem? (i := 29) rfl)
theorem kX8_158 : mthV RX8 158 8 yX8_goesOn prog_10_method_34_code 3 (Option.none : Option Jvm.ClassFile.FieldType) 1 := ⟨⟨⟨tw_1161, tw_67, tw_1164⟩, rfl, by decide +kernel⟩, tw_1163, tw_37, rfl⟩
def wpX8_years (ln : Nat → Nat) (S : HC) (a0 : Nat) (a1 : Int32) (post : Int32 → HC → Prop) : Prop := wpX8_in ln S a1 (1 : Int32) (100 : Int32) fun z1 S => if z1 = 0 then (post (-1000000001 : Int32) S) else (dn_ (hR S a0 0) fun b2 => al_ (ln b2) (1 : Int32) (hI S b2) fun z3 => dn_ (hR S a0 0) fun b4 => al_ (ln b4) (2 : Int32) (hI S b4) fun z5 => lt_ ((9999 : Int32) - z5) fun z6 => wpX8_within ln S z6 (0 : Int32) a1 fun z7 S => wpX8_goesOn ln S a0 z7 fun S => dn_ (hR S a0 0) fun b8 => al_ (ln b8) (1 : Int32) (hI S b8) fun z9 => lt_ (z9 - z3) fun z10 => post z10 S)
abbrev rmX8_years : Room := { frames := 4, cells := 0, slots := 0, locals := 96 }
set_option maxHeartbeats 4000000 in
set_option maxRecDepth 100000 in
theorem ctX8_years {l : Launch} {g : GX} {N : Nat} {ln : Nat → Nat} {S : HC} {a0 : Nat} {a1 : Int32} {post : Int32 → HC → Prop} (hr_a0 : a0 < N) (hk_a0 : kd a0 = 8) (h : wpX8_years ln S a0 a1 post) : Met l yX8_years (Cond.code yX8_years prog_10_method_35_code 3 (Option.some Jvm.ClassFile.FieldType.int) :: gtbl) rmX8_years (va_Pc [.ref (gz g + a0), .int a1] (AtP g N ln S)) (QI g N ln post) 0 0 (gF g) := by
  refine m_of (by decide) (Nat.le_of_ble_eq_true rfl) ?_
  intro p e s m below meth c ls F hr I hl
  have hl : lv_has ls 3 [(0, .ref (gz g + a0)), (1, .int a1)] := hl
  unfold wpX8_years at h
  refine lv_iload_n F.1 F.2.1 dX8_years_0 rfl (lv_at hl 1 rfl) ?_
  refine lv_iconst (v := 1) F.1 F.2.1 dX8_years_1 (by decide) ?_
  refine lv_bipush (v := 100) F.1 F.2.1 dX8_years_2 (by decide) ?_
  refine g_I I (run_S (As := [.int a1, .int (1 : Int32), .int (100 : Int32)]) (rest := []) F I kX8_79 (ctX8_in h) ⟨rfl, rfl⟩ ⟨Nat.le_of_ble_eq_true rfl, Nat.le_of_ble_eq_true rfl⟩ rfl hl.1 rfl (Nat.le_of_ble_eq_true rfl) ⟨Nat.le_of_ble_eq_true rfl, Nat.le_of_ble_eq_true rfl⟩ dX8_years_4) (fun z1 S H locs I h => ?_)
  refine r_if_ne (tgt := 13) F dX8_years_7 (by decide) h (fun h => ?_) (fun h => ?_)
  · refine lv_aload_n F.1 F.2.1 dX8_years_13 rfl (lv_at hl 0 rfl) ?_
    refine r_getN F I hr_a0 hk_a0 fX8_9 (f := 9) rfl (by decide) dX8_years_14 h (fun b2 hr_b2 hk_b2 h => ?_)
    refine lv_iconst (v := 1) F.1 F.2.1 dX8_years_17 (by decide) ?_
    refine r_ald F I hr_b2 hk_b2 dX8_years_18 h (fun z3 h => ?_)
    refine lv_istore_n (lv' := [(2, .int z3), (0, .ref (gz g + a0)), (1, .int a1)]) F.1 F.2.1 dX8_years_19 rfl hl (by decide) rfl (fun ls hl => ?_)
    refine lv_aload_n F.1 F.2.1 dX8_years_20 rfl (lv_at hl 1 rfl) ?_
    refine lv_sipush (v := 9999) F.1 F.2.1 dX8_years_21 (by decide) ?_
    refine lv_aload_n F.1 F.2.1 dX8_years_24 rfl (lv_at hl 1 rfl) ?_
    refine r_getN F I hr_a0 hk_a0 fX8_9 (f := 9) rfl (by decide) dX8_years_25 h (fun b4 hr_b4 hk_b4 h => ?_)
    refine lv_iconst (v := 2) F.1 F.2.1 dX8_years_28 (by decide) ?_
    refine r_ald F I hr_b4 hk_b4 dX8_years_29 h (fun z5 h => ?_)
    refine r_isub F dX8_years_30 h (fun z6 h => ?_)
    refine lv_iconst (v := 0) F.1 F.2.1 dX8_years_31 (by decide) ?_
    refine lv_iload_n F.1 F.2.1 dX8_years_32 rfl (lv_at hl 2 rfl) ?_
    refine g_I I (run_S (As := [.int z6, .int (0 : Int32), .int a1]) (rest := [.ref (gz g + a0)]) F I kX8_117 (ctX8_within h) ⟨rfl, rfl⟩ ⟨Nat.le_of_ble_eq_true rfl, Nat.le_of_ble_eq_true rfl⟩ rfl hl.1 rfl (Nat.le_of_ble_eq_true rfl) ⟨Nat.le_of_ble_eq_true rfl, Nat.le_of_ble_eq_true rfl⟩ dX8_years_33) (fun z7 S H locs I h => ?_)
    refine g_V I (run_V (As := [.int z7]) (rest := []) F I hr_a0 hk_a0 (by decide) kX8_158 (ctX8_goesOn hr_a0 hk_a0 h) ⟨rfl, rfl⟩ ⟨Nat.le_of_ble_eq_true rfl, Nat.le_of_ble_eq_true rfl⟩ rfl hl.1 rfl (Nat.le_of_ble_eq_true rfl) ⟨Nat.le_of_ble_eq_true rfl, Nat.le_of_ble_eq_true rfl⟩ dX8_years_36) (fun S H locs I h => ?_)
    refine lv_aload_n F.1 F.2.1 dX8_years_39 rfl (lv_at hl 1 rfl) ?_
    refine r_getN F I hr_a0 hk_a0 fX8_9 (f := 9) rfl (by decide) dX8_years_40 h (fun b8 hr_b8 hk_b8 h => ?_)
    refine lv_iconst (v := 1) F.1 F.2.1 dX8_years_43 (by decide) ?_
    refine r_ald F I hr_b8 hk_b8 dX8_years_44 h (fun z9 h => ?_)
    refine lv_iload_n F.1 F.2.1 dX8_years_45 rfl (lv_at hl 0 rfl) ?_
    refine r_isub F dX8_years_46 h (fun z10 h => ?_)
    exact r_ireturn F I ⟨hr.1, hr.2.1, trivial⟩ h dX8_years_47
  · refine lv_ldc F.1 F.2.1 F.2.2.2.1 (F.2.2.2.2 _ tw_1064) dX8_years_10 ?_
    exact r_ireturn F I ⟨hr.1, hr.2.1, trivial⟩ h dX8_years_12
theorem bdX8_areAlike_0 : ∀ q ∈ ([(0, .iconst 1, 1), (1, .istore_n 3, 1), (2, .iconst 0, 1), (3, .istore 4, 2), (5, .iload 4, 2), (7, .bipush 8, 2), (9, .if_icmp .ge 36, 3), (12, .iload_n 3, 1), (13, .ifCond .eq 24, 3), (16, .aload_n 0, 1), (17, .iload_n 1, 1), (18, .iload 4, 2), (20, .invokevirtual 134, 3), (23, .aload_n 0, 1), (24, .iload_n 2, 1), (25, .iload 4, 2), (27, .invokevirtual 134, 3), (30, .if_icmp .ne 7, 3), (33, .iconst 1, 1), (34, .goto 4, 3), (37, .iconst 0, 1), (38, .istore_n 3, 1), (39, .iinc 4 1, 3), (42, .goto (-37), 3), (45, .iload_n 3, 1), (46, .ireturn, 1)] : List (Nat × Jvm.ClassFile.Instr × Nat)), decode cX8_areAlike q.1 = .ok q.2 := chk_ok _ 0 _ rfl (by decide +kernel)
theorem dX8_areAlike_0 : decode cX8_areAlike 0 = .ok (.iconst 1, 1) := bdX8_areAlike_0 (0, .iconst 1, 1) (List.mem_of_getElem? (i := 0) rfl)
theorem dX8_areAlike_1 : decode cX8_areAlike 1 = .ok (.istore_n 3, 1) := bdX8_areAlike_0 (1, .istore_n 3, 1) (List.mem_of_getElem? (i := 1) rfl)
theorem dX8_areAlike_2 : decode cX8_areAlike 2 = .ok (.iconst 0, 1) := bdX8_areAlike_0 (2, .iconst 0, 1) (List.mem_of_getElem? (i := 2) rfl)
theorem dX8_areAlike_3 : decode cX8_areAlike 3 = .ok (.istore 4, 2) := bdX8_areAlike_0 (3, .istore 4, 2) (List.mem_of_getElem? (i := 3) rfl)
theorem dX8_areAlike_5 : decode cX8_areAlike 5 = .ok (.iload 4, 2) := bdX8_areAlike_0 (5, .iload 4, 2) (List.mem_of_getElem? (i := 4) rfl)
theorem dX8_areAlike_7 : decode cX8_areAlike 7 = .ok (.bipush 8, 2) := bdX8_areAlike_0 (7, .bipush 8, 2) (List.mem_of_getElem? (i := 5) rfl)
theorem dX8_areAlike_9 : decode cX8_areAlike 9 = .ok (.if_icmp .ge 36, 3) := bdX8_areAlike_0 (9, .if_icmp .ge 36, 3) (List.mem_of_getElem? (i := 6) rfl)
theorem dX8_areAlike_12 : decode cX8_areAlike 12 = .ok (.iload_n 3, 1) := bdX8_areAlike_0 (12, .iload_n 3, 1) (List.mem_of_getElem? (i := 7) rfl)
theorem dX8_areAlike_13 : decode cX8_areAlike 13 = .ok (.ifCond .eq 24, 3) := bdX8_areAlike_0 (13, .ifCond .eq 24, 3) (List.mem_of_getElem? (i := 8) rfl)
theorem dX8_areAlike_16 : decode cX8_areAlike 16 = .ok (.aload_n 0, 1) := bdX8_areAlike_0 (16, .aload_n 0, 1) (List.mem_of_getElem? (i := 9) rfl)
theorem dX8_areAlike_17 : decode cX8_areAlike 17 = .ok (.iload_n 1, 1) := bdX8_areAlike_0 (17, .iload_n 1, 1) (List.mem_of_getElem? (i := 10) rfl)
theorem dX8_areAlike_18 : decode cX8_areAlike 18 = .ok (.iload 4, 2) := bdX8_areAlike_0 (18, .iload 4, 2) (List.mem_of_getElem? (i := 11) rfl)
theorem dX8_areAlike_20 : decode cX8_areAlike 20 = .ok (.invokevirtual 134, 3) := bdX8_areAlike_0 (20, .invokevirtual 134, 3) (List.mem_of_getElem? (i := 12) rfl)
theorem dX8_areAlike_23 : decode cX8_areAlike 23 = .ok (.aload_n 0, 1) := bdX8_areAlike_0 (23, .aload_n 0, 1) (List.mem_of_getElem? (i := 13) rfl)
theorem dX8_areAlike_24 : decode cX8_areAlike 24 = .ok (.iload_n 2, 1) := bdX8_areAlike_0 (24, .iload_n 2, 1) (List.mem_of_getElem? (i := 14) rfl)
theorem dX8_areAlike_25 : decode cX8_areAlike 25 = .ok (.iload 4, 2) := bdX8_areAlike_0 (25, .iload 4, 2) (List.mem_of_getElem? (i := 15) rfl)
theorem dX8_areAlike_27 : decode cX8_areAlike 27 = .ok (.invokevirtual 134, 3) := bdX8_areAlike_0 (27, .invokevirtual 134, 3) (List.mem_of_getElem? (i := 16) rfl)
theorem dX8_areAlike_30 : decode cX8_areAlike 30 = .ok (.if_icmp .ne 7, 3) := bdX8_areAlike_0 (30, .if_icmp .ne 7, 3) (List.mem_of_getElem? (i := 17) rfl)
theorem dX8_areAlike_33 : decode cX8_areAlike 33 = .ok (.iconst 1, 1) := bdX8_areAlike_0 (33, .iconst 1, 1) (List.mem_of_getElem? (i := 18) rfl)
theorem dX8_areAlike_34 : decode cX8_areAlike 34 = .ok (.goto 4, 3) := bdX8_areAlike_0 (34, .goto 4, 3) (List.mem_of_getElem? (i := 19) rfl)
theorem dX8_areAlike_37 : decode cX8_areAlike 37 = .ok (.iconst 0, 1) := bdX8_areAlike_0 (37, .iconst 0, 1) (List.mem_of_getElem? (i := 20) rfl)
theorem dX8_areAlike_38 : decode cX8_areAlike 38 = .ok (.istore_n 3, 1) := bdX8_areAlike_0 (38, .istore_n 3, 1) (List.mem_of_getElem? (i := 21) rfl)
theorem dX8_areAlike_39 : decode cX8_areAlike 39 = .ok (.iinc 4 1, 3) := bdX8_areAlike_0 (39, .iinc 4 1, 3) (List.mem_of_getElem? (i := 22) rfl)
theorem dX8_areAlike_42 : decode cX8_areAlike 42 = .ok (.goto (-37), 3) := bdX8_areAlike_0 (42, .goto (-37), 3) (List.mem_of_getElem? (i := 23) rfl)
theorem dX8_areAlike_45 : decode cX8_areAlike 45 = .ok (.iload_n 3, 1) := bdX8_areAlike_0 (45, .iload_n 3, 1) (List.mem_of_getElem? (i := 24) rfl)
theorem dX8_areAlike_46 : decode cX8_areAlike 46 = .ok (.ireturn, 1) := bdX8_areAlike_0 (46, .ireturn, 1) (List.mem_of_getElem? (i := 25) rfl)
def BX8_areAlike_38 (ln : Nat → Nat) (post : Int32 → HC → Prop) (K5 : HC → Nat → Int32 → Int32 → Int32 → Int32 → Prop) (S : HC) (x0 : Nat) (x1 : Int32) (x2 : Int32) (x4 : Int32) (t0 : Int32) : Prop := lt_ (x4 + (1 : Int32)) fun z1 => K5 S x0 x1 x2 t0 z1
def BX8_areAlike_37 (ln : Nat → Nat) (post : Int32 → HC → Prop) (K5 : HC → Nat → Int32 → Int32 → Int32 → Int32 → Prop) (S : HC) (x0 : Nat) (x1 : Int32) (x2 : Int32) (x4 : Int32) : Prop := BX8_areAlike_38 ln post K5 S x0 x1 x2 x4 (0 : Int32)
def LX8_areAlike_5 (ln : Nat → Nat) (post : Int32 → HC → Prop) : Nat → HC → Nat → Int32 → Int32 → Int32 → Int32 → Prop
  | 0 => fun _ _ _ _ _ _ => False
  | n5 + 1 => fun S x0 x1 x2 x3 x4 => if (8 : Int32) ≤ x4 then (rb_ .boolean x3 (post x3 S)) else (if x3 = 0 then (BX8_areAlike_37 ln post (LX8_areAlike_5 ln post n5) S x0 x1 x2 x4) else (wpX8_borne ln S x0 x1 x4 fun z2 S => wpX8_borne ln S x0 x2 x4 fun z3 S => if z2 = z3 then (BX8_areAlike_38 ln post (LX8_areAlike_5 ln post n5) S x0 x1 x2 x4 (1 : Int32)) else (BX8_areAlike_37 ln post (LX8_areAlike_5 ln post n5) S x0 x1 x2 x4)))
def wpX8_areAlike (ln : Nat → Nat) (S : HC) (a0 : Nat) (a1 : Int32) (a2 : Int32) (post : Int32 → HC → Prop) : Prop := ∃ n5, LX8_areAlike_5 ln post n5 S a0 a1 a2 (1 : Int32) (0 : Int32)
abbrev rmX8_areAlike : Room := { frames := 2, cells := 0, slots := 0, locals := 44 }
set_option maxHeartbeats 4000000 in
set_option maxRecDepth 100000 in
theorem ctX8_areAlike {l : Launch} {g : GX} {N : Nat} {ln : Nat → Nat} {S : HC} {a0 : Nat} {a1 : Int32} {a2 : Int32} {post : Int32 → HC → Prop} (hr_a0 : a0 < N) (hk_a0 : kd a0 = 8) (h : wpX8_areAlike ln S a0 a1 a2 post) : Met l yX8_areAlike (Cond.code yX8_areAlike prog_10_method_36_code 5 (Option.some Jvm.ClassFile.FieldType.boolean) :: gtbl) rmX8_areAlike (va_Pc [.ref (gz g + a0), .int a1, .int a2] (AtP g N ln S)) (QI g N ln post) 0 0 (gF g) := by
  refine m_of (by decide) (Nat.le_of_ble_eq_true rfl) ?_
  intro p e s m below meth c ls F hr I hl
  have hl : lv_has ls 5 [(0, .ref (gz g + a0)), (1, .int a1), (2, .int a2)] := hl
  unfold wpX8_areAlike at h
  have hl_5 : ∀ n5 : Nat, ∀ (S : HC) (H : Heap) (locs : List Loc) (ls : Array Slot) (x0 : Nat) (x1 : Int32) (x2 : Int32) (x3 : Int32) (x4 : Int32), x0 < N → kd x0 = 8 → LX8_areAlike_5 ln post n5 S x0 x1 x2 x3 x4 → Inv g N ln S s H locs → lv_has ls 5 [(0, .ref (gz g + x0)), (1, .int x1), (2, .int x2), (3, .int x3), (4, .int x4)] → W p l e rmX8_areAlike s m ([.ref (gz g + a0), .int a1, .int a2] : List Value).toArray below meth c H locs 0 0 (MQ below (QI g N ln post) ([.ref (gz g + a0), .int a1, .int a2] : List Value).toArray s 0 0 (gF g)) (F0 m 5 ls []) := by
    intro n5
    induction n5 with
    | zero =>
      intro S H locs ls x0 x1 x2 x3 x4 hr_x0 hk_x0 h I hl
      exact h.elim
    | succ n5 ih =>
      have hk5 := ih
      have hj_38 : ∀ (S : HC) (H : Heap) (locs : List Loc) (ls : Array Slot) (x0 : Nat) (x1 : Int32) (x2 : Int32) (x4 : Int32) (t0 : Int32), x0 < N → kd x0 = 8 → BX8_areAlike_38 ln post (LX8_areAlike_5 ln post n5) S x0 x1 x2 x4 t0 → Inv g N ln S s H locs → lv_has ls 5 [(0, .ref (gz g + x0)), (1, .int x1), (2, .int x2), (4, .int x4)] → W p l e rmX8_areAlike s m ([.ref (gz g + a0), .int a1, .int a2] : List Value).toArray below meth c H locs 0 0 (MQ below (QI g N ln post) ([.ref (gz g + a0), .int a1, .int a2] : List Value).toArray s 0 0 (gF g)) (F0 m 38 ls [.int t0]) := by
        intro S H locs ls x0 x1 x2 x4 t0 hr_x0 hk_x0 h I hl
        unfold BX8_areAlike_38 at h
        refine lv_istore_n (lv' := [(3, .int t0), (0, .ref (gz g + x0)), (1, .int x1), (2, .int x2), (4, .int x4)]) F.1 F.2.1 dX8_areAlike_38 rfl hl (by decide) rfl (fun ls hl => ?_)
        obtain ⟨z1, e_z1, h⟩ := lt_x h
        refine lv_iinc (v := z1) (lv' := [(4, .int z1), (3, .int t0), (0, .ref (gz g + x0)), (1, .int x1), (2, .int x2)]) F.1 F.2.1 dX8_areAlike_39 hl (k := 4) rfl (by rw [e_z1]; rfl) (by decide) rfl (fun ls hl => ?_)
        refine lv_goto (tgt := 5) F.1 F.2.1 dX8_areAlike_42 (by decide) ?_
        exact hk5 S _ _ _ x0 x1 x2 t0 z1 hr_x0 hk_x0 h I (lv_sub hl [2, 3, 4, 1, 0] rfl)
      have hj_37 : ∀ (S : HC) (H : Heap) (locs : List Loc) (ls : Array Slot) (x0 : Nat) (x1 : Int32) (x2 : Int32) (x4 : Int32), x0 < N → kd x0 = 8 → BX8_areAlike_37 ln post (LX8_areAlike_5 ln post n5) S x0 x1 x2 x4 → Inv g N ln S s H locs → lv_has ls 5 [(0, .ref (gz g + x0)), (1, .int x1), (2, .int x2), (4, .int x4)] → W p l e rmX8_areAlike s m ([.ref (gz g + a0), .int a1, .int a2] : List Value).toArray below meth c H locs 0 0 (MQ below (QI g N ln post) ([.ref (gz g + a0), .int a1, .int a2] : List Value).toArray s 0 0 (gF g)) (F0 m 37 ls []) := by
        intro S H locs ls x0 x1 x2 x4 hr_x0 hk_x0 h I hl
        unfold BX8_areAlike_37 at h
        refine lv_iconst (v := 0) F.1 F.2.1 dX8_areAlike_37 (by decide) ?_
        exact hj_38 S _ _ _ x0 x1 x2 x4 (0 : Int32) hr_x0 hk_x0 h I (lv_sub hl [0, 1, 2, 3] rfl)
      intro S H locs ls x0 x1 x2 x3 x4 hr_x0 hk_x0 h I hl
      rw [LX8_areAlike_5] at h
      refine lv_iload F.1 F.2.1 dX8_areAlike_5 (lv_at hl 4 rfl) ?_
      refine lv_bipush (v := 8) F.1 F.2.1 dX8_areAlike_7 (by decide) ?_
      refine r_icmp_ge (tgt := 45) F dX8_areAlike_9 (by decide) h (fun h => ?_) (fun h => ?_)
      · refine lv_iload_n F.1 F.2.1 dX8_areAlike_45 rfl (lv_at hl 3 rfl) ?_
        exact r_zreturn F I ⟨hr.1, hr.2.1, trivial⟩ h dX8_areAlike_46
      · refine lv_iload_n F.1 F.2.1 dX8_areAlike_12 rfl (lv_at hl 3 rfl) ?_
        refine r_if_eq (tgt := 37) F dX8_areAlike_13 (by decide) h (fun h => ?_) (fun h => ?_)
        · exact hj_37 S _ _ _ x0 x1 x2 x4 hr_x0 hk_x0 h I (lv_sub hl [0, 1, 2, 4] rfl)
        · refine lv_aload_n F.1 F.2.1 dX8_areAlike_16 rfl (lv_at hl 0 rfl) ?_
          refine lv_iload_n F.1 F.2.1 dX8_areAlike_17 rfl (lv_at hl 1 rfl) ?_
          refine lv_iload F.1 F.2.1 dX8_areAlike_18 (lv_at hl 4 rfl) ?_
          refine g_I I (run_V (As := [.int x1, .int x4]) (rest := []) F I hr_x0 hk_x0 (by decide) kX8_134 (ctX8_borne hr_x0 hk_x0 h) ⟨rfl, rfl⟩ ⟨Nat.le_of_ble_eq_true rfl, Nat.le_of_ble_eq_true rfl⟩ rfl hl.1 rfl (Nat.le_of_ble_eq_true rfl) ⟨Nat.le_of_ble_eq_true rfl, Nat.le_of_ble_eq_true rfl⟩ dX8_areAlike_20) (fun z2 S H locs I h => ?_)
          refine lv_aload_n F.1 F.2.1 dX8_areAlike_23 rfl (lv_at hl 0 rfl) ?_
          refine lv_iload_n F.1 F.2.1 dX8_areAlike_24 rfl (lv_at hl 2 rfl) ?_
          refine lv_iload F.1 F.2.1 dX8_areAlike_25 (lv_at hl 4 rfl) ?_
          refine g_I I (run_V (As := [.int x2, .int x4]) (rest := [.int z2]) F I hr_x0 hk_x0 (by decide) kX8_134 (ctX8_borne hr_x0 hk_x0 h) ⟨rfl, rfl⟩ ⟨Nat.le_of_ble_eq_true rfl, Nat.le_of_ble_eq_true rfl⟩ rfl hl.1 rfl (Nat.le_of_ble_eq_true rfl) ⟨Nat.le_of_ble_eq_true rfl, Nat.le_of_ble_eq_true rfl⟩ dX8_areAlike_27) (fun z3 S H locs I h => ?_)
          refine r_icmp_ne (tgt := 37) F dX8_areAlike_30 (by decide) h (fun h => ?_) (fun h => ?_)
          · exact hj_37 S _ _ _ x0 x1 x2 x4 hr_x0 hk_x0 h I (lv_sub hl [0, 1, 2, 4] rfl)
          · refine lv_iconst (v := 1) F.1 F.2.1 dX8_areAlike_33 (by decide) ?_
            refine lv_goto (tgt := 38) F.1 F.2.1 dX8_areAlike_34 (by decide) ?_
            exact hj_38 S _ _ _ x0 x1 x2 x4 (1 : Int32) hr_x0 hk_x0 h I (lv_sub hl [0, 1, 2, 4] rfl)
  refine lv_iconst (v := 1) F.1 F.2.1 dX8_areAlike_0 (by decide) ?_
  refine lv_istore_n (lv' := [(3, .int (1 : Int32)), (0, .ref (gz g + a0)), (1, .int a1), (2, .int a2)]) F.1 F.2.1 dX8_areAlike_1 rfl hl (by decide) rfl (fun ls hl => ?_)
  refine lv_iconst (v := 0) F.1 F.2.1 dX8_areAlike_2 (by decide) ?_
  refine lv_istore (lv' := [(4, .int (0 : Int32)), (3, .int (1 : Int32)), (0, .ref (gz g + a0)), (1, .int a1), (2, .int a2)]) F.1 F.2.1 dX8_areAlike_3 hl (by decide) rfl (fun ls hl => ?_)
  obtain ⟨n5, h⟩ := h
  exact hl_5 n5 S _ _ _ a0 a1 a2 (1 : Int32) (0 : Int32) hr_a0 hk_a0 h I (lv_sub hl [2, 3, 4, 1, 0] rfl)
theorem bdX8_alike_0 : ∀ q ∈ ([(0, .aload_n 0, 1), (1, .iload_n 1, 1), (2, .invokevirtual 83, 3), (5, .ifCond .eq 16, 3), (8, .aload_n 0, 1), (9, .iload_n 2, 1), (10, .invokevirtual 83, 3), (13, .ifCond .eq 8, 3), (16, .iload_n 1, 1), (17, .iload_n 2, 1), (18, .if_icmp .ne 6, 3), (21, .ldc 98, 2), (23, .ireturn, 1), (24, .aload_n 0, 1), (25, .invokevirtual 161, 3), (28, .aload_n 0, 1), (29, .iload_n 1, 1), (30, .iload_n 2, 1), (31, .invokevirtual 164, 3), (34, .ifCond .eq 7, 3), (37, .iconst 1, 1), (38, .goto 4, 3), (41, .iconst 0, 1), (42, .ireturn, 1)] : List (Nat × Jvm.ClassFile.Instr × Nat)), decode cX8_alike q.1 = .ok q.2 := chk_ok _ 0 _ rfl (by decide +kernel)
theorem dX8_alike_0 : decode cX8_alike 0 = .ok (.aload_n 0, 1) := bdX8_alike_0 (0, .aload_n 0, 1) (List.mem_of_getElem? (i := 0) rfl)
theorem dX8_alike_1 : decode cX8_alike 1 = .ok (.iload_n 1, 1) := bdX8_alike_0 (1, .iload_n 1, 1) (List.mem_of_getElem? (i := 1) rfl)
theorem dX8_alike_2 : decode cX8_alike 2 = .ok (.invokevirtual 83, 3) := bdX8_alike_0 (2, .invokevirtual 83, 3) (List.mem_of_getElem? (i := 2) rfl)
theorem dX8_alike_5 : decode cX8_alike 5 = .ok (.ifCond .eq 16, 3) := bdX8_alike_0 (5, .ifCond .eq 16, 3) (List.mem_of_getElem? (i := 3) rfl)
theorem dX8_alike_8 : decode cX8_alike 8 = .ok (.aload_n 0, 1) := bdX8_alike_0 (8, .aload_n 0, 1) (List.mem_of_getElem? (i := 4) rfl)
theorem dX8_alike_9 : decode cX8_alike 9 = .ok (.iload_n 2, 1) := bdX8_alike_0 (9, .iload_n 2, 1) (List.mem_of_getElem? (i := 5) rfl)
theorem dX8_alike_10 : decode cX8_alike 10 = .ok (.invokevirtual 83, 3) := bdX8_alike_0 (10, .invokevirtual 83, 3) (List.mem_of_getElem? (i := 6) rfl)
theorem dX8_alike_13 : decode cX8_alike 13 = .ok (.ifCond .eq 8, 3) := bdX8_alike_0 (13, .ifCond .eq 8, 3) (List.mem_of_getElem? (i := 7) rfl)
theorem dX8_alike_16 : decode cX8_alike 16 = .ok (.iload_n 1, 1) := bdX8_alike_0 (16, .iload_n 1, 1) (List.mem_of_getElem? (i := 8) rfl)
theorem dX8_alike_17 : decode cX8_alike 17 = .ok (.iload_n 2, 1) := bdX8_alike_0 (17, .iload_n 2, 1) (List.mem_of_getElem? (i := 9) rfl)
theorem dX8_alike_18 : decode cX8_alike 18 = .ok (.if_icmp .ne 6, 3) := bdX8_alike_0 (18, .if_icmp .ne 6, 3) (List.mem_of_getElem? (i := 10) rfl)
theorem dX8_alike_21 : decode cX8_alike 21 = .ok (.ldc 98, 2) := bdX8_alike_0 (21, .ldc 98, 2) (List.mem_of_getElem? (i := 11) rfl)
theorem dX8_alike_23 : decode cX8_alike 23 = .ok (.ireturn, 1) := bdX8_alike_0 (23, .ireturn, 1) (List.mem_of_getElem? (i := 12) rfl)
theorem dX8_alike_24 : decode cX8_alike 24 = .ok (.aload_n 0, 1) := bdX8_alike_0 (24, .aload_n 0, 1) (List.mem_of_getElem? (i := 13) rfl)
theorem dX8_alike_25 : decode cX8_alike 25 = .ok (.invokevirtual 161, 3) := bdX8_alike_0 (25, .invokevirtual 161, 3) (List.mem_of_getElem? (i := 14) rfl)
theorem dX8_alike_28 : decode cX8_alike 28 = .ok (.aload_n 0, 1) := bdX8_alike_0 (28, .aload_n 0, 1) (List.mem_of_getElem? (i := 15) rfl)
theorem dX8_alike_29 : decode cX8_alike 29 = .ok (.iload_n 1, 1) := bdX8_alike_0 (29, .iload_n 1, 1) (List.mem_of_getElem? (i := 16) rfl)
theorem dX8_alike_30 : decode cX8_alike 30 = .ok (.iload_n 2, 1) := bdX8_alike_0 (30, .iload_n 2, 1) (List.mem_of_getElem? (i := 17) rfl)
theorem dX8_alike_31 : decode cX8_alike 31 = .ok (.invokevirtual 164, 3) := bdX8_alike_0 (31, .invokevirtual 164, 3) (List.mem_of_getElem? (i := 18) rfl)
theorem dX8_alike_34 : decode cX8_alike 34 = .ok (.ifCond .eq 7, 3) := bdX8_alike_0 (34, .ifCond .eq 7, 3) (List.mem_of_getElem? (i := 19) rfl)
theorem dX8_alike_37 : decode cX8_alike 37 = .ok (.iconst 1, 1) := bdX8_alike_0 (37, .iconst 1, 1) (List.mem_of_getElem? (i := 20) rfl)
theorem dX8_alike_38 : decode cX8_alike 38 = .ok (.goto 4, 3) := bdX8_alike_0 (38, .goto 4, 3) (List.mem_of_getElem? (i := 21) rfl)
theorem dX8_alike_41 : decode cX8_alike 41 = .ok (.iconst 0, 1) := bdX8_alike_0 (41, .iconst 0, 1) (List.mem_of_getElem? (i := 22) rfl)
theorem dX8_alike_42 : decode cX8_alike 42 = .ok (.ireturn, 1) := bdX8_alike_0 (42, .ireturn, 1) (List.mem_of_getElem? (i := 23) rfl)
theorem kX8_161 : mthV RX8 161 8 yX8_worksAll prog_10_method_20_code 2 (Option.none : Option Jvm.ClassFile.FieldType) 0 := ⟨⟨⟨tw_1181, tw_67, tw_1184⟩, rfl, by decide +kernel⟩, tw_1183, tw_41, rfl⟩
theorem kX8_164 : mthV RX8 164 8 yX8_areAlike prog_10_method_36_code 5 (Option.some Jvm.ClassFile.FieldType.boolean) 2 := ⟨⟨⟨tw_1185, tw_67, tw_1188⟩, rfl, by decide +kernel⟩, tw_1187, tw_42, rfl⟩
def BX8_alike_21 (ln : Nat → Nat) (post : Int32 → HC → Prop) (S : HC)  : Prop := post (-1000000001 : Int32) S
def wpX8_alike (ln : Nat → Nat) (S : HC) (a0 : Nat) (a1 : Int32) (a2 : Int32) (post : Int32 → HC → Prop) : Prop := wpX8_isOne ln S a0 a1 fun z1 S => if z1 = 0 then (BX8_alike_21 ln post S) else (wpX8_isOne ln S a0 a2 fun z2 S => if z2 = 0 then (BX8_alike_21 ln post S) else (if a1 = a2 then (BX8_alike_21 ln post S) else (wpX8_worksAll ln S a0 fun S => wpX8_areAlike ln S a0 a1 a2 fun z3 S => if z3 = 0 then (post (0 : Int32) S) else (post (1 : Int32) S))))
abbrev rmX8_alike : Room := { frames := 7, cells := 0, slots := 0, locals := 165 }
set_option maxHeartbeats 4000000 in
set_option maxRecDepth 100000 in
theorem ctX8_alike {l : Launch} {g : GX} {N : Nat} {ln : Nat → Nat} {S : HC} {a0 : Nat} {a1 : Int32} {a2 : Int32} {post : Int32 → HC → Prop} (hr_a0 : a0 < N) (hk_a0 : kd a0 = 8) (h : wpX8_alike ln S a0 a1 a2 post) : Met l yX8_alike (Cond.code yX8_alike prog_10_method_37_code 3 (Option.some Jvm.ClassFile.FieldType.int) :: gtbl) rmX8_alike (va_Pc [.ref (gz g + a0), .int a1, .int a2] (AtP g N ln S)) (QI g N ln post) 0 0 (gF g) := by
  refine m_of (by decide) (Nat.le_of_ble_eq_true rfl) ?_
  intro p e s m below meth c ls F hr I hl
  have hl : lv_has ls 3 [(0, .ref (gz g + a0)), (1, .int a1), (2, .int a2)] := hl
  unfold wpX8_alike at h
  have hj_21 : ∀ (S : HC) (H : Heap) (locs : List Loc) (ls : Array Slot), BX8_alike_21 ln post S  → Inv g N ln S s H locs → lv_has ls 3 [] → W p l e rmX8_alike s m ([.ref (gz g + a0), .int a1, .int a2] : List Value).toArray below meth c H locs 0 0 (MQ below (QI g N ln post) ([.ref (gz g + a0), .int a1, .int a2] : List Value).toArray s 0 0 (gF g)) (F0 m 21 ls []) := by
    intro S H locs ls h I hl
    unfold BX8_alike_21 at h
    refine lv_ldc F.1 F.2.1 F.2.2.2.1 (F.2.2.2.2 _ tw_1064) dX8_alike_21 ?_
    exact r_ireturn F I ⟨hr.1, hr.2.1, trivial⟩ h dX8_alike_23
  refine lv_aload_n F.1 F.2.1 dX8_alike_0 rfl (lv_at hl 0 rfl) ?_
  refine lv_iload_n F.1 F.2.1 dX8_alike_1 rfl (lv_at hl 1 rfl) ?_
  refine g_I I (run_V (As := [.int a1]) (rest := []) F I hr_a0 hk_a0 (by decide) kX8_83 (ctX8_isOne hr_a0 hk_a0 h) ⟨rfl, rfl⟩ ⟨Nat.le_of_ble_eq_true rfl, Nat.le_of_ble_eq_true rfl⟩ rfl hl.1 rfl (Nat.le_of_ble_eq_true rfl) ⟨Nat.le_of_ble_eq_true rfl, Nat.le_of_ble_eq_true rfl⟩ dX8_alike_2) (fun z1 S H locs I h => ?_)
  refine r_if_eq (tgt := 21) F dX8_alike_5 (by decide) h (fun h => ?_) (fun h => ?_)
  · exact hj_21 S _ _ _   h I (lv_sub hl [] rfl)
  · refine lv_aload_n F.1 F.2.1 dX8_alike_8 rfl (lv_at hl 0 rfl) ?_
    refine lv_iload_n F.1 F.2.1 dX8_alike_9 rfl (lv_at hl 2 rfl) ?_
    refine g_I I (run_V (As := [.int a2]) (rest := []) F I hr_a0 hk_a0 (by decide) kX8_83 (ctX8_isOne hr_a0 hk_a0 h) ⟨rfl, rfl⟩ ⟨Nat.le_of_ble_eq_true rfl, Nat.le_of_ble_eq_true rfl⟩ rfl hl.1 rfl (Nat.le_of_ble_eq_true rfl) ⟨Nat.le_of_ble_eq_true rfl, Nat.le_of_ble_eq_true rfl⟩ dX8_alike_10) (fun z2 S H locs I h => ?_)
    refine r_if_eq (tgt := 21) F dX8_alike_13 (by decide) h (fun h => ?_) (fun h => ?_)
    · exact hj_21 S _ _ _   h I (lv_sub hl [] rfl)
    · refine lv_iload_n F.1 F.2.1 dX8_alike_16 rfl (lv_at hl 1 rfl) ?_
      refine lv_iload_n F.1 F.2.1 dX8_alike_17 rfl (lv_at hl 2 rfl) ?_
      refine r_icmp_ne (tgt := 24) F dX8_alike_18 (by decide) h (fun h => ?_) (fun h => ?_)
      · refine lv_aload_n F.1 F.2.1 dX8_alike_24 rfl (lv_at hl 0 rfl) ?_
        refine g_V I (run_V (As := []) (rest := []) F I hr_a0 hk_a0 (by decide) kX8_161 (ctX8_worksAll hr_a0 hk_a0 h) ⟨rfl, rfl⟩ ⟨Nat.le_of_ble_eq_true rfl, Nat.le_of_ble_eq_true rfl⟩ rfl hl.1 rfl (Nat.le_of_ble_eq_true rfl) ⟨Nat.le_of_ble_eq_true rfl, Nat.le_of_ble_eq_true rfl⟩ dX8_alike_25) (fun S H locs I h => ?_)
        refine lv_aload_n F.1 F.2.1 dX8_alike_28 rfl (lv_at hl 0 rfl) ?_
        refine lv_iload_n F.1 F.2.1 dX8_alike_29 rfl (lv_at hl 1 rfl) ?_
        refine lv_iload_n F.1 F.2.1 dX8_alike_30 rfl (lv_at hl 2 rfl) ?_
        refine g_I I (run_V (As := [.int a1, .int a2]) (rest := []) F I hr_a0 hk_a0 (by decide) kX8_164 (ctX8_areAlike hr_a0 hk_a0 h) ⟨rfl, rfl⟩ ⟨Nat.le_of_ble_eq_true rfl, Nat.le_of_ble_eq_true rfl⟩ rfl hl.1 rfl (Nat.le_of_ble_eq_true rfl) ⟨Nat.le_of_ble_eq_true rfl, Nat.le_of_ble_eq_true rfl⟩ dX8_alike_31) (fun z3 S H locs I h => ?_)
        refine r_if_eq (tgt := 41) F dX8_alike_34 (by decide) h (fun h => ?_) (fun h => ?_)
        · refine lv_iconst (v := 0) F.1 F.2.1 dX8_alike_41 (by decide) ?_
          exact r_ireturn F I ⟨hr.1, hr.2.1, trivial⟩ h dX8_alike_42
        · refine lv_iconst (v := 1) F.1 F.2.1 dX8_alike_37 (by decide) ?_
          refine lv_goto (tgt := 42) F.1 F.2.1 dX8_alike_38 (by decide) ?_
          exact r_ireturn F I ⟨hr.1, hr.2.1, trivial⟩ h dX8_alike_42
      · exact hj_21 S _ _ _   h I (lv_sub hl [] rfl)
theorem bdX8_clashes_0 : ∀ q ∈ ([(0, .aload_n 0, 1), (1, .invokevirtual 161, 3), (4, .iconst 0, 1), (5, .istore_n 1, 1), (6, .iconst 0, 1), (7, .istore_n 2, 1), (8, .iload_n 2, 1), (9, .aload_n 0, 1), (10, .getfield 9, 3), (13, .iconst 1, 1), (14, .iaload, 1), (15, .if_icmp .ge 39, 3), (18, .iconst 0, 1), (19, .istore_n 3, 1), (20, .iload_n 3, 1), (21, .iload_n 2, 1), (22, .if_icmp .ge 26, 3), (25, .iload_n 1, 1), (26, .aload_n 0, 1), (27, .iload_n 2, 1), (28, .iload_n 3, 1), (29, .invokevirtual 164, 3), (32, .ifCond .eq 7, 3), (35, .iconst 1, 1), (36, .goto 4, 3), (39, .iconst 0, 1), (40, .iadd, 1), (41, .istore_n 1, 1), (42, .iinc 3 1, 3), (45, .goto (-25), 3), (48, .iinc 2 1, 3), (51, .goto (-43), 3), (54, .iload_n 1, 1), (55, .ireturn, 1)] : List (Nat × Jvm.ClassFile.Instr × Nat)), decode cX8_clashes q.1 = .ok q.2 := chk_ok _ 0 _ rfl (by decide +kernel)
theorem dX8_clashes_0 : decode cX8_clashes 0 = .ok (.aload_n 0, 1) := bdX8_clashes_0 (0, .aload_n 0, 1) (List.mem_of_getElem? (i := 0) rfl)
theorem dX8_clashes_1 : decode cX8_clashes 1 = .ok (.invokevirtual 161, 3) := bdX8_clashes_0 (1, .invokevirtual 161, 3) (List.mem_of_getElem? (i := 1) rfl)
theorem dX8_clashes_4 : decode cX8_clashes 4 = .ok (.iconst 0, 1) := bdX8_clashes_0 (4, .iconst 0, 1) (List.mem_of_getElem? (i := 2) rfl)
theorem dX8_clashes_5 : decode cX8_clashes 5 = .ok (.istore_n 1, 1) := bdX8_clashes_0 (5, .istore_n 1, 1) (List.mem_of_getElem? (i := 3) rfl)
theorem dX8_clashes_6 : decode cX8_clashes 6 = .ok (.iconst 0, 1) := bdX8_clashes_0 (6, .iconst 0, 1) (List.mem_of_getElem? (i := 4) rfl)
theorem dX8_clashes_7 : decode cX8_clashes 7 = .ok (.istore_n 2, 1) := bdX8_clashes_0 (7, .istore_n 2, 1) (List.mem_of_getElem? (i := 5) rfl)
theorem dX8_clashes_8 : decode cX8_clashes 8 = .ok (.iload_n 2, 1) := bdX8_clashes_0 (8, .iload_n 2, 1) (List.mem_of_getElem? (i := 6) rfl)
theorem dX8_clashes_9 : decode cX8_clashes 9 = .ok (.aload_n 0, 1) := bdX8_clashes_0 (9, .aload_n 0, 1) (List.mem_of_getElem? (i := 7) rfl)
theorem dX8_clashes_10 : decode cX8_clashes 10 = .ok (.getfield 9, 3) := bdX8_clashes_0 (10, .getfield 9, 3) (List.mem_of_getElem? (i := 8) rfl)
theorem dX8_clashes_13 : decode cX8_clashes 13 = .ok (.iconst 1, 1) := bdX8_clashes_0 (13, .iconst 1, 1) (List.mem_of_getElem? (i := 9) rfl)
theorem dX8_clashes_14 : decode cX8_clashes 14 = .ok (.iaload, 1) := bdX8_clashes_0 (14, .iaload, 1) (List.mem_of_getElem? (i := 10) rfl)
theorem dX8_clashes_15 : decode cX8_clashes 15 = .ok (.if_icmp .ge 39, 3) := bdX8_clashes_0 (15, .if_icmp .ge 39, 3) (List.mem_of_getElem? (i := 11) rfl)
theorem dX8_clashes_18 : decode cX8_clashes 18 = .ok (.iconst 0, 1) := bdX8_clashes_0 (18, .iconst 0, 1) (List.mem_of_getElem? (i := 12) rfl)
theorem dX8_clashes_19 : decode cX8_clashes 19 = .ok (.istore_n 3, 1) := bdX8_clashes_0 (19, .istore_n 3, 1) (List.mem_of_getElem? (i := 13) rfl)
theorem dX8_clashes_20 : decode cX8_clashes 20 = .ok (.iload_n 3, 1) := bdX8_clashes_0 (20, .iload_n 3, 1) (List.mem_of_getElem? (i := 14) rfl)
theorem dX8_clashes_21 : decode cX8_clashes 21 = .ok (.iload_n 2, 1) := bdX8_clashes_0 (21, .iload_n 2, 1) (List.mem_of_getElem? (i := 15) rfl)
theorem dX8_clashes_22 : decode cX8_clashes 22 = .ok (.if_icmp .ge 26, 3) := bdX8_clashes_0 (22, .if_icmp .ge 26, 3) (List.mem_of_getElem? (i := 16) rfl)
theorem dX8_clashes_25 : decode cX8_clashes 25 = .ok (.iload_n 1, 1) := bdX8_clashes_0 (25, .iload_n 1, 1) (List.mem_of_getElem? (i := 17) rfl)
theorem dX8_clashes_26 : decode cX8_clashes 26 = .ok (.aload_n 0, 1) := bdX8_clashes_0 (26, .aload_n 0, 1) (List.mem_of_getElem? (i := 18) rfl)
theorem dX8_clashes_27 : decode cX8_clashes 27 = .ok (.iload_n 2, 1) := bdX8_clashes_0 (27, .iload_n 2, 1) (List.mem_of_getElem? (i := 19) rfl)
theorem dX8_clashes_28 : decode cX8_clashes 28 = .ok (.iload_n 3, 1) := bdX8_clashes_0 (28, .iload_n 3, 1) (List.mem_of_getElem? (i := 20) rfl)
theorem dX8_clashes_29 : decode cX8_clashes 29 = .ok (.invokevirtual 164, 3) := bdX8_clashes_0 (29, .invokevirtual 164, 3) (List.mem_of_getElem? (i := 21) rfl)
theorem dX8_clashes_32 : decode cX8_clashes 32 = .ok (.ifCond .eq 7, 3) := bdX8_clashes_0 (32, .ifCond .eq 7, 3) (List.mem_of_getElem? (i := 22) rfl)
theorem dX8_clashes_35 : decode cX8_clashes 35 = .ok (.iconst 1, 1) := bdX8_clashes_0 (35, .iconst 1, 1) (List.mem_of_getElem? (i := 23) rfl)
theorem dX8_clashes_36 : decode cX8_clashes 36 = .ok (.goto 4, 3) := bdX8_clashes_0 (36, .goto 4, 3) (List.mem_of_getElem? (i := 24) rfl)
theorem dX8_clashes_39 : decode cX8_clashes 39 = .ok (.iconst 0, 1) := bdX8_clashes_0 (39, .iconst 0, 1) (List.mem_of_getElem? (i := 25) rfl)
theorem dX8_clashes_40 : decode cX8_clashes 40 = .ok (.iadd, 1) := bdX8_clashes_0 (40, .iadd, 1) (List.mem_of_getElem? (i := 26) rfl)
theorem dX8_clashes_41 : decode cX8_clashes 41 = .ok (.istore_n 1, 1) := bdX8_clashes_0 (41, .istore_n 1, 1) (List.mem_of_getElem? (i := 27) rfl)
theorem dX8_clashes_42 : decode cX8_clashes 42 = .ok (.iinc 3 1, 3) := bdX8_clashes_0 (42, .iinc 3 1, 3) (List.mem_of_getElem? (i := 28) rfl)
theorem dX8_clashes_45 : decode cX8_clashes 45 = .ok (.goto (-25), 3) := bdX8_clashes_0 (45, .goto (-25), 3) (List.mem_of_getElem? (i := 29) rfl)
theorem dX8_clashes_48 : decode cX8_clashes 48 = .ok (.iinc 2 1, 3) := bdX8_clashes_0 (48, .iinc 2 1, 3) (List.mem_of_getElem? (i := 30) rfl)
theorem dX8_clashes_51 : decode cX8_clashes 51 = .ok (.goto (-43), 3) := bdX8_clashes_0 (51, .goto (-43), 3) (List.mem_of_getElem? (i := 31) rfl)
theorem dX8_clashes_54 : decode cX8_clashes 54 = .ok (.iload_n 1, 1) := bdX8_clashes_0 (54, .iload_n 1, 1) (List.mem_of_getElem? (i := 32) rfl)
theorem dX8_clashes_55 : decode cX8_clashes 55 = .ok (.ireturn, 1) := bdX8_clashes_0 (55, .ireturn, 1) (List.mem_of_getElem? (i := 33) rfl)
def BX8_clashes_40 (ln : Nat → Nat) (post : Int32 → HC → Prop) (K8 : HC → Nat → Int32 → Int32 → Prop) (K20 : HC → Nat → Int32 → Int32 → Int32 → Prop) (S : HC) (x0 : Nat) (x2 : Int32) (x3 : Int32) (t0 : Int32) (t1 : Int32) : Prop := lt_ (t0 + t1) fun z1 => lt_ (x3 + (1 : Int32)) fun z2 => K20 S x0 z1 x2 z2
def LX8_clashes_20 (ln : Nat → Nat) (post : Int32 → HC → Prop) (K8 : HC → Nat → Int32 → Int32 → Prop) : Nat → HC → Nat → Int32 → Int32 → Int32 → Prop
  | 0 => fun _ _ _ _ _ => False
  | n20 + 1 => fun S x0 x1 x2 x3 => if x2 ≤ x3 then (lt_ (x2 + (1 : Int32)) fun z3 => K8 S x0 x1 z3) else (wpX8_areAlike ln S x0 x2 x3 fun z4 S => if z4 = 0 then (BX8_clashes_40 ln post K8 (LX8_clashes_20 ln post K8 n20) S x0 x2 x3 x1 (0 : Int32)) else (BX8_clashes_40 ln post K8 (LX8_clashes_20 ln post K8 n20) S x0 x2 x3 x1 (1 : Int32)))
def LX8_clashes_8 (ln : Nat → Nat) (post : Int32 → HC → Prop) : Nat → HC → Nat → Int32 → Int32 → Prop
  | 0 => fun _ _ _ _ => False
  | n8 + 1 => fun S x0 x1 x2 => dn_ (hR S x0 0) fun b5 => al_ (ln b5) (1 : Int32) (hI S b5) fun z6 => if z6 ≤ x2 then (post x1 S) else (∃ n20, LX8_clashes_20 ln post (LX8_clashes_8 ln post n8) n20 S x0 x1 x2 (0 : Int32))
def wpX8_clashes (ln : Nat → Nat) (S : HC) (a0 : Nat) (post : Int32 → HC → Prop) : Prop := wpX8_worksAll ln S a0 fun S => ∃ n8, LX8_clashes_8 ln post n8 S a0 (0 : Int32) (0 : Int32)
abbrev rmX8_clashes : Room := { frames := 7, cells := 0, slots := 0, locals := 165 }
set_option maxHeartbeats 4000000 in
set_option maxRecDepth 100000 in
theorem ctX8_clashes {l : Launch} {g : GX} {N : Nat} {ln : Nat → Nat} {S : HC} {a0 : Nat} {post : Int32 → HC → Prop} (hr_a0 : a0 < N) (hk_a0 : kd a0 = 8) (h : wpX8_clashes ln S a0 post) : Met l yX8_clashes (Cond.code yX8_clashes prog_10_method_38_code 4 (Option.some Jvm.ClassFile.FieldType.int) :: gtbl) rmX8_clashes (va_Pc [.ref (gz g + a0)] (AtP g N ln S)) (QI g N ln post) 0 0 (gF g) := by
  refine m_of (by decide) (Nat.le_of_ble_eq_true rfl) ?_
  intro p e s m below meth c ls F hr I hl
  have hl : lv_has ls 4 [(0, .ref (gz g + a0))] := hl
  unfold wpX8_clashes at h
  have hl_8 : ∀ n8 : Nat, ∀ (S : HC) (H : Heap) (locs : List Loc) (ls : Array Slot) (x0 : Nat) (x1 : Int32) (x2 : Int32), x0 < N → kd x0 = 8 → LX8_clashes_8 ln post n8 S x0 x1 x2 → Inv g N ln S s H locs → lv_has ls 4 [(0, .ref (gz g + x0)), (1, .int x1), (2, .int x2)] → W p l e rmX8_clashes s m ([.ref (gz g + a0)] : List Value).toArray below meth c H locs 0 0 (MQ below (QI g N ln post) ([.ref (gz g + a0)] : List Value).toArray s 0 0 (gF g)) (F0 m 8 ls []) := by
    intro n8
    induction n8 with
    | zero =>
      intro S H locs ls x0 x1 x2 hr_x0 hk_x0 h I hl
      exact h.elim
    | succ n8 ih =>
      have hk8 := ih
      have hl_20 : ∀ n20 : Nat, ∀ (S : HC) (H : Heap) (locs : List Loc) (ls : Array Slot) (x0 : Nat) (x1 : Int32) (x2 : Int32) (x3 : Int32), x0 < N → kd x0 = 8 → LX8_clashes_20 ln post (LX8_clashes_8 ln post n8) n20 S x0 x1 x2 x3 → Inv g N ln S s H locs → lv_has ls 4 [(0, .ref (gz g + x0)), (1, .int x1), (2, .int x2), (3, .int x3)] → W p l e rmX8_clashes s m ([.ref (gz g + a0)] : List Value).toArray below meth c H locs 0 0 (MQ below (QI g N ln post) ([.ref (gz g + a0)] : List Value).toArray s 0 0 (gF g)) (F0 m 20 ls []) := by
        intro n20
        induction n20 with
        | zero =>
          intro S H locs ls x0 x1 x2 x3 hr_x0 hk_x0 h I hl
          exact h.elim
        | succ n20 ih =>
          have hk20 := ih
          have hj_40 : ∀ (S : HC) (H : Heap) (locs : List Loc) (ls : Array Slot) (x0 : Nat) (x2 : Int32) (x3 : Int32) (t0 : Int32) (t1 : Int32), x0 < N → kd x0 = 8 → BX8_clashes_40 ln post (LX8_clashes_8 ln post n8) (LX8_clashes_20 ln post (LX8_clashes_8 ln post n8) n20) S x0 x2 x3 t0 t1 → Inv g N ln S s H locs → lv_has ls 4 [(0, .ref (gz g + x0)), (2, .int x2), (3, .int x3)] → W p l e rmX8_clashes s m ([.ref (gz g + a0)] : List Value).toArray below meth c H locs 0 0 (MQ below (QI g N ln post) ([.ref (gz g + a0)] : List Value).toArray s 0 0 (gF g)) (F0 m 40 ls [.int t1, .int t0]) := by
            intro S H locs ls x0 x2 x3 t0 t1 hr_x0 hk_x0 h I hl
            unfold BX8_clashes_40 at h
            refine r_iadd F dX8_clashes_40 h (fun z1 h => ?_)
            refine lv_istore_n (lv' := [(1, .int z1), (0, .ref (gz g + x0)), (2, .int x2), (3, .int x3)]) F.1 F.2.1 dX8_clashes_41 rfl hl (by decide) rfl (fun ls hl => ?_)
            obtain ⟨z2, e_z2, h⟩ := lt_x h
            refine lv_iinc (v := z2) (lv' := [(3, .int z2), (1, .int z1), (0, .ref (gz g + x0)), (2, .int x2)]) F.1 F.2.1 dX8_clashes_42 hl (k := 3) rfl (by rw [e_z2]; rfl) (by decide) rfl (fun ls hl => ?_)
            refine lv_goto (tgt := 20) F.1 F.2.1 dX8_clashes_45 (by decide) ?_
            exact hk20 S _ _ _ x0 z1 x2 z2 hr_x0 hk_x0 h I (lv_sub hl [2, 1, 3, 0] rfl)
          intro S H locs ls x0 x1 x2 x3 hr_x0 hk_x0 h I hl
          rw [LX8_clashes_20] at h
          refine lv_iload_n F.1 F.2.1 dX8_clashes_20 rfl (lv_at hl 3 rfl) ?_
          refine lv_iload_n F.1 F.2.1 dX8_clashes_21 rfl (lv_at hl 2 rfl) ?_
          refine r_icmp_ge (tgt := 48) F dX8_clashes_22 (by decide) h (fun h => ?_) (fun h => ?_)
          · obtain ⟨z3, e_z3, h⟩ := lt_x h
            refine lv_iinc (v := z3) (lv' := [(2, .int z3), (0, .ref (gz g + x0)), (1, .int x1), (3, .int x3)]) F.1 F.2.1 dX8_clashes_48 hl (k := 2) rfl (by rw [e_z3]; rfl) (by decide) rfl (fun ls hl => ?_)
            refine lv_goto (tgt := 8) F.1 F.2.1 dX8_clashes_51 (by decide) ?_
            exact hk8 S _ _ _ x0 x1 z3 hr_x0 hk_x0 h I (lv_sub hl [1, 2, 0] rfl)
          · refine lv_iload_n F.1 F.2.1 dX8_clashes_25 rfl (lv_at hl 1 rfl) ?_
            refine lv_aload_n F.1 F.2.1 dX8_clashes_26 rfl (lv_at hl 0 rfl) ?_
            refine lv_iload_n F.1 F.2.1 dX8_clashes_27 rfl (lv_at hl 2 rfl) ?_
            refine lv_iload_n F.1 F.2.1 dX8_clashes_28 rfl (lv_at hl 3 rfl) ?_
            refine g_I I (run_V (As := [.int x2, .int x3]) (rest := [.int x1]) F I hr_x0 hk_x0 (by decide) kX8_164 (ctX8_areAlike hr_x0 hk_x0 h) ⟨rfl, rfl⟩ ⟨Nat.le_of_ble_eq_true rfl, Nat.le_of_ble_eq_true rfl⟩ rfl hl.1 rfl (Nat.le_of_ble_eq_true rfl) ⟨Nat.le_of_ble_eq_true rfl, Nat.le_of_ble_eq_true rfl⟩ dX8_clashes_29) (fun z4 S H locs I h => ?_)
            refine r_if_eq (tgt := 39) F dX8_clashes_32 (by decide) h (fun h => ?_) (fun h => ?_)
            · refine lv_iconst (v := 0) F.1 F.2.1 dX8_clashes_39 (by decide) ?_
              exact hj_40 S _ _ _ x0 x2 x3 x1 (0 : Int32) hr_x0 hk_x0 h I (lv_sub hl [0, 2, 3] rfl)
            · refine lv_iconst (v := 1) F.1 F.2.1 dX8_clashes_35 (by decide) ?_
              refine lv_goto (tgt := 40) F.1 F.2.1 dX8_clashes_36 (by decide) ?_
              exact hj_40 S _ _ _ x0 x2 x3 x1 (1 : Int32) hr_x0 hk_x0 h I (lv_sub hl [0, 2, 3] rfl)
      intro S H locs ls x0 x1 x2 hr_x0 hk_x0 h I hl
      rw [LX8_clashes_8] at h
      refine lv_iload_n F.1 F.2.1 dX8_clashes_8 rfl (lv_at hl 2 rfl) ?_
      refine lv_aload_n F.1 F.2.1 dX8_clashes_9 rfl (lv_at hl 0 rfl) ?_
      refine r_getN F I hr_x0 hk_x0 fX8_9 (f := 9) rfl (by decide) dX8_clashes_10 h (fun b5 hr_b5 hk_b5 h => ?_)
      refine lv_iconst (v := 1) F.1 F.2.1 dX8_clashes_13 (by decide) ?_
      refine r_ald F I hr_b5 hk_b5 dX8_clashes_14 h (fun z6 h => ?_)
      refine r_icmp_ge (tgt := 54) F dX8_clashes_15 (by decide) h (fun h => ?_) (fun h => ?_)
      · refine lv_iload_n F.1 F.2.1 dX8_clashes_54 rfl (lv_at hl 1 rfl) ?_
        exact r_ireturn F I ⟨hr.1, hr.2.1, trivial⟩ h dX8_clashes_55
      · refine lv_iconst (v := 0) F.1 F.2.1 dX8_clashes_18 (by decide) ?_
        refine lv_istore_n (lv' := [(3, .int (0 : Int32)), (0, .ref (gz g + x0)), (1, .int x1), (2, .int x2)]) F.1 F.2.1 dX8_clashes_19 rfl hl (by decide) rfl (fun ls hl => ?_)
        obtain ⟨n20, h⟩ := h
        exact hl_20 n20 S _ _ _ x0 x1 x2 (0 : Int32) hr_x0 hk_x0 h I (lv_sub hl [1, 2, 3, 0] rfl)
  refine lv_aload_n F.1 F.2.1 dX8_clashes_0 rfl (lv_at hl 0 rfl) ?_
  refine g_V I (run_V (As := []) (rest := []) F I hr_a0 hk_a0 (by decide) kX8_161 (ctX8_worksAll hr_a0 hk_a0 h) ⟨rfl, rfl⟩ ⟨Nat.le_of_ble_eq_true rfl, Nat.le_of_ble_eq_true rfl⟩ rfl hl.1 rfl (Nat.le_of_ble_eq_true rfl) ⟨Nat.le_of_ble_eq_true rfl, Nat.le_of_ble_eq_true rfl⟩ dX8_clashes_1) (fun S H locs I h => ?_)
  refine lv_iconst (v := 0) F.1 F.2.1 dX8_clashes_4 (by decide) ?_
  refine lv_istore_n (lv' := [(1, .int (0 : Int32)), (0, .ref (gz g + a0))]) F.1 F.2.1 dX8_clashes_5 rfl hl (by decide) rfl (fun ls hl => ?_)
  refine lv_iconst (v := 0) F.1 F.2.1 dX8_clashes_6 (by decide) ?_
  refine lv_istore_n (lv' := [(2, .int (0 : Int32)), (1, .int (0 : Int32)), (0, .ref (gz g + a0))]) F.1 F.2.1 dX8_clashes_7 rfl hl (by decide) rfl (fun ls hl => ?_)
  obtain ⟨n8, h⟩ := h
  exact hl_8 n8 S _ _ _ a0 (0 : Int32) (0 : Int32) hr_a0 hk_a0 h I (lv_sub hl [2, 1, 0] rfl)
theorem bdX8_land_0 : ∀ q ∈ ([(0, .iload_n 1, 1), (1, .iconst 0, 1), (2, .iconst 3, 1), (3, .invokestatic 79, 3), (6, .ifCond .ne 6, 3), (9, .ldc 98, 2), (11, .ireturn, 1), (12, .iload_n 1, 1), (13, .iconst 3, 1), (14, .if_icmp .ge 22, 3), (17, .iload_n 1, 1), (18, .ifCond .ne 10, 3), (21, .aload_n 0, 1), (22, .invokevirtual 167, 3), (25, .goto 10, 3), (28, .aload_n 0, 1), (29, .iload_n 1, 1), (30, .iconst 1, 1), (31, .isub, 1), (32, .invokevirtual 149, 3), (35, .ireturn, 1), (36, .iconst 0, 1), (37, .istore_n 2, 1), (38, .iconst 0, 1), (39, .istore_n 3, 1), (40, .iload_n 3, 1), (41, .aload_n 0, 1), (42, .getfield 9, 3), (45, .iconst 1, 1), (46, .iaload, 1), (47, .if_icmp .ge 27, 3), (50, .iload_n 2, 1), (51, .aload_n 0, 1), (52, .iload_n 3, 1), (53, .invokevirtual 108, 3), (56, .ifCond .eq 9, 3), (59, .iconst 1, 1), (60, .iload_n 3, 1), (62, .goto 4, 3), (65, .iconst 0, 1)] : List (Nat × Jvm.ClassFile.Instr × Nat)), decode cX8_land q.1 = .ok q.2 := chk_ok _ 0 _ rfl (by decide +kernel)
theorem dX8_land_0 : decode cX8_land 0 = .ok (.iload_n 1, 1) := bdX8_land_0 (0, .iload_n 1, 1) (List.mem_of_getElem? (i := 0) rfl)
theorem dX8_land_1 : decode cX8_land 1 = .ok (.iconst 0, 1) := bdX8_land_0 (1, .iconst 0, 1) (List.mem_of_getElem? (i := 1) rfl)
theorem dX8_land_2 : decode cX8_land 2 = .ok (.iconst 3, 1) := bdX8_land_0 (2, .iconst 3, 1) (List.mem_of_getElem? (i := 2) rfl)
theorem dX8_land_3 : decode cX8_land 3 = .ok (.invokestatic 79, 3) := bdX8_land_0 (3, .invokestatic 79, 3) (List.mem_of_getElem? (i := 3) rfl)
theorem dX8_land_6 : decode cX8_land 6 = .ok (.ifCond .ne 6, 3) := bdX8_land_0 (6, .ifCond .ne 6, 3) (List.mem_of_getElem? (i := 4) rfl)
theorem dX8_land_9 : decode cX8_land 9 = .ok (.ldc 98, 2) := bdX8_land_0 (9, .ldc 98, 2) (List.mem_of_getElem? (i := 5) rfl)
theorem dX8_land_11 : decode cX8_land 11 = .ok (.ireturn, 1) := bdX8_land_0 (11, .ireturn, 1) (List.mem_of_getElem? (i := 6) rfl)
theorem dX8_land_12 : decode cX8_land 12 = .ok (.iload_n 1, 1) := bdX8_land_0 (12, .iload_n 1, 1) (List.mem_of_getElem? (i := 7) rfl)
theorem dX8_land_13 : decode cX8_land 13 = .ok (.iconst 3, 1) := bdX8_land_0 (13, .iconst 3, 1) (List.mem_of_getElem? (i := 8) rfl)
theorem dX8_land_14 : decode cX8_land 14 = .ok (.if_icmp .ge 22, 3) := bdX8_land_0 (14, .if_icmp .ge 22, 3) (List.mem_of_getElem? (i := 9) rfl)
theorem dX8_land_17 : decode cX8_land 17 = .ok (.iload_n 1, 1) := bdX8_land_0 (17, .iload_n 1, 1) (List.mem_of_getElem? (i := 10) rfl)
theorem dX8_land_18 : decode cX8_land 18 = .ok (.ifCond .ne 10, 3) := bdX8_land_0 (18, .ifCond .ne 10, 3) (List.mem_of_getElem? (i := 11) rfl)
theorem dX8_land_21 : decode cX8_land 21 = .ok (.aload_n 0, 1) := bdX8_land_0 (21, .aload_n 0, 1) (List.mem_of_getElem? (i := 12) rfl)
theorem dX8_land_22 : decode cX8_land 22 = .ok (.invokevirtual 167, 3) := bdX8_land_0 (22, .invokevirtual 167, 3) (List.mem_of_getElem? (i := 13) rfl)
theorem dX8_land_25 : decode cX8_land 25 = .ok (.goto 10, 3) := bdX8_land_0 (25, .goto 10, 3) (List.mem_of_getElem? (i := 14) rfl)
theorem dX8_land_28 : decode cX8_land 28 = .ok (.aload_n 0, 1) := bdX8_land_0 (28, .aload_n 0, 1) (List.mem_of_getElem? (i := 15) rfl)
theorem dX8_land_29 : decode cX8_land 29 = .ok (.iload_n 1, 1) := bdX8_land_0 (29, .iload_n 1, 1) (List.mem_of_getElem? (i := 16) rfl)
theorem dX8_land_30 : decode cX8_land 30 = .ok (.iconst 1, 1) := bdX8_land_0 (30, .iconst 1, 1) (List.mem_of_getElem? (i := 17) rfl)
theorem dX8_land_31 : decode cX8_land 31 = .ok (.isub, 1) := bdX8_land_0 (31, .isub, 1) (List.mem_of_getElem? (i := 18) rfl)
theorem dX8_land_32 : decode cX8_land 32 = .ok (.invokevirtual 149, 3) := bdX8_land_0 (32, .invokevirtual 149, 3) (List.mem_of_getElem? (i := 19) rfl)
theorem dX8_land_35 : decode cX8_land 35 = .ok (.ireturn, 1) := bdX8_land_0 (35, .ireturn, 1) (List.mem_of_getElem? (i := 20) rfl)
theorem dX8_land_36 : decode cX8_land 36 = .ok (.iconst 0, 1) := bdX8_land_0 (36, .iconst 0, 1) (List.mem_of_getElem? (i := 21) rfl)
theorem dX8_land_37 : decode cX8_land 37 = .ok (.istore_n 2, 1) := bdX8_land_0 (37, .istore_n 2, 1) (List.mem_of_getElem? (i := 22) rfl)
theorem dX8_land_38 : decode cX8_land 38 = .ok (.iconst 0, 1) := bdX8_land_0 (38, .iconst 0, 1) (List.mem_of_getElem? (i := 23) rfl)
theorem dX8_land_39 : decode cX8_land 39 = .ok (.istore_n 3, 1) := bdX8_land_0 (39, .istore_n 3, 1) (List.mem_of_getElem? (i := 24) rfl)
theorem dX8_land_40 : decode cX8_land 40 = .ok (.iload_n 3, 1) := bdX8_land_0 (40, .iload_n 3, 1) (List.mem_of_getElem? (i := 25) rfl)
theorem dX8_land_41 : decode cX8_land 41 = .ok (.aload_n 0, 1) := bdX8_land_0 (41, .aload_n 0, 1) (List.mem_of_getElem? (i := 26) rfl)
theorem dX8_land_42 : decode cX8_land 42 = .ok (.getfield 9, 3) := bdX8_land_0 (42, .getfield 9, 3) (List.mem_of_getElem? (i := 27) rfl)
theorem dX8_land_45 : decode cX8_land 45 = .ok (.iconst 1, 1) := bdX8_land_0 (45, .iconst 1, 1) (List.mem_of_getElem? (i := 28) rfl)
theorem dX8_land_46 : decode cX8_land 46 = .ok (.iaload, 1) := bdX8_land_0 (46, .iaload, 1) (List.mem_of_getElem? (i := 29) rfl)
theorem dX8_land_47 : decode cX8_land 47 = .ok (.if_icmp .ge 27, 3) := bdX8_land_0 (47, .if_icmp .ge 27, 3) (List.mem_of_getElem? (i := 30) rfl)
theorem dX8_land_50 : decode cX8_land 50 = .ok (.iload_n 2, 1) := bdX8_land_0 (50, .iload_n 2, 1) (List.mem_of_getElem? (i := 31) rfl)
theorem dX8_land_51 : decode cX8_land 51 = .ok (.aload_n 0, 1) := bdX8_land_0 (51, .aload_n 0, 1) (List.mem_of_getElem? (i := 32) rfl)
theorem dX8_land_52 : decode cX8_land 52 = .ok (.iload_n 3, 1) := bdX8_land_0 (52, .iload_n 3, 1) (List.mem_of_getElem? (i := 33) rfl)
theorem dX8_land_53 : decode cX8_land 53 = .ok (.invokevirtual 108, 3) := bdX8_land_0 (53, .invokevirtual 108, 3) (List.mem_of_getElem? (i := 34) rfl)
theorem dX8_land_56 : decode cX8_land 56 = .ok (.ifCond .eq 9, 3) := bdX8_land_0 (56, .ifCond .eq 9, 3) (List.mem_of_getElem? (i := 35) rfl)
theorem dX8_land_59 : decode cX8_land 59 = .ok (.iconst 1, 1) := bdX8_land_0 (59, .iconst 1, 1) (List.mem_of_getElem? (i := 36) rfl)
theorem dX8_land_60 : decode cX8_land 60 = .ok (.iload_n 3, 1) := bdX8_land_0 (60, .iload_n 3, 1) (List.mem_of_getElem? (i := 37) rfl)
theorem dX8_land_62 : decode cX8_land 62 = .ok (.goto 4, 3) := bdX8_land_0 (62, .goto 4, 3) (List.mem_of_getElem? (i := 38) rfl)
theorem dX8_land_65 : decode cX8_land 65 = .ok (.iconst 0, 1) := bdX8_land_0 (65, .iconst 0, 1) (List.mem_of_getElem? (i := 39) rfl)
theorem bdX8_land_67 : ∀ q ∈ ([(67, .istore_n 2, 1), (68, .iinc 3 1, 3), (71, .goto (-31), 3), (74, .iload_n 2, 1), (75, .ireturn, 1)] : List (Nat × Jvm.ClassFile.Instr × Nat)), decode cX8_land q.1 = .ok q.2 := chk_ok _ 67 _ rfl (by decide +kernel)
theorem dX8_land_67 : decode cX8_land 67 = .ok (.istore_n 2, 1) := bdX8_land_67 (67, .istore_n 2, 1) (List.mem_of_getElem? (i := 0) rfl)
theorem dX8_land_68 : decode cX8_land 68 = .ok (.iinc 3 1, 3) := bdX8_land_67 (68, .iinc 3 1, 3) (List.mem_of_getElem? (i := 1) rfl)
theorem dX8_land_71 : decode cX8_land 71 = .ok (.goto (-31), 3) := bdX8_land_67 (71, .goto (-31), 3) (List.mem_of_getElem? (i := 2) rfl)
theorem dX8_land_74 : decode cX8_land 74 = .ok (.iload_n 2, 1) := bdX8_land_67 (74, .iload_n 2, 1) (List.mem_of_getElem? (i := 3) rfl)
theorem dX8_land_75 : decode cX8_land 75 = .ok (.ireturn, 1) := bdX8_land_67 (75, .ireturn, 1) (List.mem_of_getElem? (i := 4) rfl)
theorem dX8_land_61 : decode cX8_land 61 = .ok (.ishl, 1) := by decide +kernel
theorem dX8_land_66 : decode cX8_land 66 = .ok (.ior, 1) := by decide +kernel
theorem kX8_167 : mthV RX8 167 8 yX8_clashes prog_10_method_38_code 4 (Option.some Jvm.ClassFile.FieldType.int) 0 := ⟨⟨⟨tw_1193, tw_67, tw_1196⟩, rfl, by decide +kernel⟩, tw_1195, tw_43, rfl⟩
def BX8_land_66 (ln : Nat → Nat) (post : Int32 → HC → Prop) (K40 : HC → Nat → Int32 → Int32 → Prop) (S : HC) (x0 : Nat) (x3 : Int32) (t0 : Int32) (t1 : Int32) : Prop := lt_ (t0 ||| t1) fun z1 => lt_ (x3 + (1 : Int32)) fun z2 => K40 S x0 z1 z2
def LX8_land_40 (ln : Nat → Nat) (post : Int32 → HC → Prop) : Nat → HC → Nat → Int32 → Int32 → Prop
  | 0 => fun _ _ _ _ => False
  | n40 + 1 => fun S x0 x2 x3 => dn_ (hR S x0 0) fun b3 => al_ (ln b3) (1 : Int32) (hI S b3) fun z4 => if z4 ≤ x3 then (post x2 S) else (wpX8_isHeiress ln S x0 x3 fun z5 S => if z5 = 0 then (BX8_land_66 ln post (LX8_land_40 ln post n40) S x0 x3 x2 (0 : Int32)) else (lt_ ((1 : Int32) <<< (x3 &&& 31)) fun z6 => BX8_land_66 ln post (LX8_land_40 ln post n40) S x0 x3 x2 z6))
def wpX8_land (ln : Nat → Nat) (S : HC) (a0 : Nat) (a1 : Int32) (post : Int32 → HC → Prop) : Prop := wpX8_in ln S a1 (0 : Int32) (3 : Int32) fun z7 S => if z7 = 0 then (post (-1000000001 : Int32) S) else (if (3 : Int32) ≤ a1 then (∃ n40, LX8_land_40 ln post n40 S a0 (0 : Int32) (0 : Int32)) else (if a1 = 0 then (wpX8_clashes ln S a0 fun z10 S => post z10 S) else (lt_ (a1 - (1 : Int32)) fun z8 => wpX8_manyOf ln S a0 z8 fun z9 S => post z9 S)))
abbrev rmX8_land : Room := { frames := 8, cells := 0, slots := 0, locals := 188 }
set_option maxHeartbeats 4000000 in
set_option maxRecDepth 100000 in
theorem ctX8_land {l : Launch} {g : GX} {N : Nat} {ln : Nat → Nat} {S : HC} {a0 : Nat} {a1 : Int32} {post : Int32 → HC → Prop} (hr_a0 : a0 < N) (hk_a0 : kd a0 = 8) (h : wpX8_land ln S a0 a1 post) : Met l yX8_land (Cond.code yX8_land prog_10_method_39_code 4 (Option.some Jvm.ClassFile.FieldType.int) :: gtbl) rmX8_land (va_Pc [.ref (gz g + a0), .int a1] (AtP g N ln S)) (QI g N ln post) 0 0 (gF g) := by
  refine m_of (by decide) (Nat.le_of_ble_eq_true rfl) ?_
  intro p e s m below meth c ls F hr I hl
  have hl : lv_has ls 4 [(0, .ref (gz g + a0)), (1, .int a1)] := hl
  unfold wpX8_land at h
  have hl_40 : ∀ n40 : Nat, ∀ (S : HC) (H : Heap) (locs : List Loc) (ls : Array Slot) (x0 : Nat) (x2 : Int32) (x3 : Int32), x0 < N → kd x0 = 8 → LX8_land_40 ln post n40 S x0 x2 x3 → Inv g N ln S s H locs → lv_has ls 4 [(0, .ref (gz g + x0)), (2, .int x2), (3, .int x3)] → W p l e rmX8_land s m ([.ref (gz g + a0), .int a1] : List Value).toArray below meth c H locs 0 0 (MQ below (QI g N ln post) ([.ref (gz g + a0), .int a1] : List Value).toArray s 0 0 (gF g)) (F0 m 40 ls []) := by
    intro n40
    induction n40 with
    | zero =>
      intro S H locs ls x0 x2 x3 hr_x0 hk_x0 h I hl
      exact h.elim
    | succ n40 ih =>
      have hk40 := ih
      have hj_66 : ∀ (S : HC) (H : Heap) (locs : List Loc) (ls : Array Slot) (x0 : Nat) (x3 : Int32) (t0 : Int32) (t1 : Int32), x0 < N → kd x0 = 8 → BX8_land_66 ln post (LX8_land_40 ln post n40) S x0 x3 t0 t1 → Inv g N ln S s H locs → lv_has ls 4 [(0, .ref (gz g + x0)), (3, .int x3)] → W p l e rmX8_land s m ([.ref (gz g + a0), .int a1] : List Value).toArray below meth c H locs 0 0 (MQ below (QI g N ln post) ([.ref (gz g + a0), .int a1] : List Value).toArray s 0 0 (gF g)) (F0 m 66 ls [.int t1, .int t0]) := by
        intro S H locs ls x0 x3 t0 t1 hr_x0 hk_x0 h I hl
        unfold BX8_land_66 at h
        refine r_ior F dX8_land_66 h (fun z1 h => ?_)
        refine lv_istore_n (lv' := [(2, .int z1), (0, .ref (gz g + x0)), (3, .int x3)]) F.1 F.2.1 dX8_land_67 rfl hl (by decide) rfl (fun ls hl => ?_)
        obtain ⟨z2, e_z2, h⟩ := lt_x h
        refine lv_iinc (v := z2) (lv' := [(3, .int z2), (2, .int z1), (0, .ref (gz g + x0))]) F.1 F.2.1 dX8_land_68 hl (k := 2) rfl (by rw [e_z2]; rfl) (by decide) rfl (fun ls hl => ?_)
        refine lv_goto (tgt := 40) F.1 F.2.1 dX8_land_71 (by decide) ?_
        exact hk40 S _ _ _ x0 z1 z2 hr_x0 hk_x0 h I (lv_sub hl [2, 1, 0] rfl)
      intro S H locs ls x0 x2 x3 hr_x0 hk_x0 h I hl
      rw [LX8_land_40] at h
      refine lv_iload_n F.1 F.2.1 dX8_land_40 rfl (lv_at hl 2 rfl) ?_
      refine lv_aload_n F.1 F.2.1 dX8_land_41 rfl (lv_at hl 0 rfl) ?_
      refine r_getN F I hr_x0 hk_x0 fX8_9 (f := 9) rfl (by decide) dX8_land_42 h (fun b3 hr_b3 hk_b3 h => ?_)
      refine lv_iconst (v := 1) F.1 F.2.1 dX8_land_45 (by decide) ?_
      refine r_ald F I hr_b3 hk_b3 dX8_land_46 h (fun z4 h => ?_)
      refine r_icmp_ge (tgt := 74) F dX8_land_47 (by decide) h (fun h => ?_) (fun h => ?_)
      · refine lv_iload_n F.1 F.2.1 dX8_land_74 rfl (lv_at hl 1 rfl) ?_
        exact r_ireturn F I ⟨hr.1, hr.2.1, trivial⟩ h dX8_land_75
      · refine lv_iload_n F.1 F.2.1 dX8_land_50 rfl (lv_at hl 1 rfl) ?_
        refine lv_aload_n F.1 F.2.1 dX8_land_51 rfl (lv_at hl 0 rfl) ?_
        refine lv_iload_n F.1 F.2.1 dX8_land_52 rfl (lv_at hl 2 rfl) ?_
        refine g_I I (run_V (As := [.int x3]) (rest := [.int x2]) F I hr_x0 hk_x0 (by decide) kX8_108 (ctX8_isHeiress hr_x0 hk_x0 h) ⟨rfl, rfl⟩ ⟨Nat.le_of_ble_eq_true rfl, Nat.le_of_ble_eq_true rfl⟩ rfl hl.1 rfl (Nat.le_of_ble_eq_true rfl) ⟨Nat.le_of_ble_eq_true rfl, Nat.le_of_ble_eq_true rfl⟩ dX8_land_53) (fun z5 S H locs I h => ?_)
        refine r_if_eq (tgt := 65) F dX8_land_56 (by decide) h (fun h => ?_) (fun h => ?_)
        · refine lv_iconst (v := 0) F.1 F.2.1 dX8_land_65 (by decide) ?_
          exact hj_66 S _ _ _ x0 x3 x2 (0 : Int32) hr_x0 hk_x0 h I (lv_sub hl [0, 2] rfl)
        · refine lv_iconst (v := 1) F.1 F.2.1 dX8_land_59 (by decide) ?_
          refine lv_iload_n F.1 F.2.1 dX8_land_60 rfl (lv_at hl 2 rfl) ?_
          refine r_ishl F dX8_land_61 h (fun z6 h => ?_)
          refine lv_goto (tgt := 66) F.1 F.2.1 dX8_land_62 (by decide) ?_
          exact hj_66 S _ _ _ x0 x3 x2 z6 hr_x0 hk_x0 h I (lv_sub hl [0, 2] rfl)
  refine lv_iload_n F.1 F.2.1 dX8_land_0 rfl (lv_at hl 1 rfl) ?_
  refine lv_iconst (v := 0) F.1 F.2.1 dX8_land_1 (by decide) ?_
  refine lv_iconst (v := 3) F.1 F.2.1 dX8_land_2 (by decide) ?_
  refine g_I I (run_S (As := [.int a1, .int (0 : Int32), .int (3 : Int32)]) (rest := []) F I kX8_79 (ctX8_in h) ⟨rfl, rfl⟩ ⟨Nat.le_of_ble_eq_true rfl, Nat.le_of_ble_eq_true rfl⟩ rfl hl.1 rfl (Nat.le_of_ble_eq_true rfl) ⟨Nat.le_of_ble_eq_true rfl, Nat.le_of_ble_eq_true rfl⟩ dX8_land_3) (fun z7 S H locs I h => ?_)
  refine r_if_ne (tgt := 12) F dX8_land_6 (by decide) h (fun h => ?_) (fun h => ?_)
  · refine lv_iload_n F.1 F.2.1 dX8_land_12 rfl (lv_at hl 1 rfl) ?_
    refine lv_iconst (v := 3) F.1 F.2.1 dX8_land_13 (by decide) ?_
    refine r_icmp_ge (tgt := 36) F dX8_land_14 (by decide) h (fun h => ?_) (fun h => ?_)
    · refine lv_iconst (v := 0) F.1 F.2.1 dX8_land_36 (by decide) ?_
      refine lv_istore_n (lv' := [(2, .int (0 : Int32)), (0, .ref (gz g + a0)), (1, .int a1)]) F.1 F.2.1 dX8_land_37 rfl hl (by decide) rfl (fun ls hl => ?_)
      refine lv_iconst (v := 0) F.1 F.2.1 dX8_land_38 (by decide) ?_
      refine lv_istore_n (lv' := [(3, .int (0 : Int32)), (2, .int (0 : Int32)), (0, .ref (gz g + a0)), (1, .int a1)]) F.1 F.2.1 dX8_land_39 rfl hl (by decide) rfl (fun ls hl => ?_)
      obtain ⟨n40, h⟩ := h
      exact hl_40 n40 S _ _ _ a0 (0 : Int32) (0 : Int32) hr_a0 hk_a0 h I (lv_sub hl [2, 1, 0] rfl)
    · refine lv_iload_n F.1 F.2.1 dX8_land_17 rfl (lv_at hl 1 rfl) ?_
      refine r_if_ne (tgt := 28) F dX8_land_18 (by decide) h (fun h => ?_) (fun h => ?_)
      · refine lv_aload_n F.1 F.2.1 dX8_land_28 rfl (lv_at hl 0 rfl) ?_
        refine lv_iload_n F.1 F.2.1 dX8_land_29 rfl (lv_at hl 1 rfl) ?_
        refine lv_iconst (v := 1) F.1 F.2.1 dX8_land_30 (by decide) ?_
        refine r_isub F dX8_land_31 h (fun z8 h => ?_)
        refine g_I I (run_V (As := [.int z8]) (rest := []) F I hr_a0 hk_a0 (by decide) kX8_149 (ctX8_manyOf hr_a0 hk_a0 h) ⟨rfl, rfl⟩ ⟨Nat.le_of_ble_eq_true rfl, Nat.le_of_ble_eq_true rfl⟩ rfl hl.1 rfl (Nat.le_of_ble_eq_true rfl) ⟨Nat.le_of_ble_eq_true rfl, Nat.le_of_ble_eq_true rfl⟩ dX8_land_32) (fun z9 S H locs I h => ?_)
        exact r_ireturn F I ⟨hr.1, hr.2.1, trivial⟩ h dX8_land_35
      · refine lv_aload_n F.1 F.2.1 dX8_land_21 rfl (lv_at hl 0 rfl) ?_
        refine g_I I (run_V (As := []) (rest := []) F I hr_a0 hk_a0 (by decide) kX8_167 (ctX8_clashes hr_a0 hk_a0 h) ⟨rfl, rfl⟩ ⟨Nat.le_of_ble_eq_true rfl, Nat.le_of_ble_eq_true rfl⟩ rfl hl.1 rfl (Nat.le_of_ble_eq_true rfl) ⟨Nat.le_of_ble_eq_true rfl, Nat.le_of_ble_eq_true rfl⟩ dX8_land_22) (fun z10 S H locs I h => ?_)
        refine lv_goto (tgt := 35) F.1 F.2.1 dX8_land_25 (by decide) ?_
        exact r_ireturn F I ⟨hr.1, hr.2.1, trivial⟩ h dX8_land_35
  · refine lv_ldc F.1 F.2.1 F.2.2.2.1 (F.2.2.2.2 _ tw_1064) dX8_land_9 ?_
    exact r_ireturn F I ⟨hr.1, hr.2.1, trivial⟩ h dX8_land_11
theorem bdX8_sixteenth_0 : ∀ q ∈ ([(0, .iload_n 1, 1), (1, .invokestatic 95, 3), (4, .ifCond .ne 6, 3), (7, .ldc 98, 2), (9, .ireturn, 1), (10, .aload_n 0, 1), (11, .iload_n 1, 1), (12, .invokevirtual 130, 3), (15, .iconst 0, 1), (16, .istore_n 2, 1), (17, .iconst 0, 1), (18, .istore_n 3, 1), (19, .iload_n 3, 1), (20, .aload_n 0, 1), (21, .getfield 9, 3), (24, .iconst 1, 1), (25, .iaload, 1), (26, .if_icmp .ge 29, 3), (29, .iload_n 2, 1), (30, .aload_n 0, 1), (31, .iload_n 3, 1), (32, .iload_n 1, 1), (33, .invokevirtual 134, 3), (36, .iconst 4, 1), (37, .if_icmp .ge 7, 3), (40, .iconst 0, 1), (41, .goto 6, 3), (44, .iconst 1, 1), (45, .iload_n 3, 1), (48, .istore_n 2, 1), (49, .iinc 3 1, 3), (52, .goto (-33), 3), (55, .iload_n 2, 1), (56, .ireturn, 1)] : List (Nat × Jvm.ClassFile.Instr × Nat)), decode cX8_sixteenth q.1 = .ok q.2 := chk_ok _ 0 _ rfl (by decide +kernel)
theorem dX8_sixteenth_0 : decode cX8_sixteenth 0 = .ok (.iload_n 1, 1) := bdX8_sixteenth_0 (0, .iload_n 1, 1) (List.mem_of_getElem? (i := 0) rfl)
theorem dX8_sixteenth_1 : decode cX8_sixteenth 1 = .ok (.invokestatic 95, 3) := bdX8_sixteenth_0 (1, .invokestatic 95, 3) (List.mem_of_getElem? (i := 1) rfl)
theorem dX8_sixteenth_4 : decode cX8_sixteenth 4 = .ok (.ifCond .ne 6, 3) := bdX8_sixteenth_0 (4, .ifCond .ne 6, 3) (List.mem_of_getElem? (i := 2) rfl)
theorem dX8_sixteenth_7 : decode cX8_sixteenth 7 = .ok (.ldc 98, 2) := bdX8_sixteenth_0 (7, .ldc 98, 2) (List.mem_of_getElem? (i := 3) rfl)
theorem dX8_sixteenth_9 : decode cX8_sixteenth 9 = .ok (.ireturn, 1) := bdX8_sixteenth_0 (9, .ireturn, 1) (List.mem_of_getElem? (i := 4) rfl)
theorem dX8_sixteenth_10 : decode cX8_sixteenth 10 = .ok (.aload_n 0, 1) := bdX8_sixteenth_0 (10, .aload_n 0, 1) (List.mem_of_getElem? (i := 5) rfl)
theorem dX8_sixteenth_11 : decode cX8_sixteenth 11 = .ok (.iload_n 1, 1) := bdX8_sixteenth_0 (11, .iload_n 1, 1) (List.mem_of_getElem? (i := 6) rfl)
theorem dX8_sixteenth_12 : decode cX8_sixteenth 12 = .ok (.invokevirtual 130, 3) := bdX8_sixteenth_0 (12, .invokevirtual 130, 3) (List.mem_of_getElem? (i := 7) rfl)
theorem dX8_sixteenth_15 : decode cX8_sixteenth 15 = .ok (.iconst 0, 1) := bdX8_sixteenth_0 (15, .iconst 0, 1) (List.mem_of_getElem? (i := 8) rfl)
theorem dX8_sixteenth_16 : decode cX8_sixteenth 16 = .ok (.istore_n 2, 1) := bdX8_sixteenth_0 (16, .istore_n 2, 1) (List.mem_of_getElem? (i := 9) rfl)
theorem dX8_sixteenth_17 : decode cX8_sixteenth 17 = .ok (.iconst 0, 1) := bdX8_sixteenth_0 (17, .iconst 0, 1) (List.mem_of_getElem? (i := 10) rfl)
theorem dX8_sixteenth_18 : decode cX8_sixteenth 18 = .ok (.istore_n 3, 1) := bdX8_sixteenth_0 (18, .istore_n 3, 1) (List.mem_of_getElem? (i := 11) rfl)
theorem dX8_sixteenth_19 : decode cX8_sixteenth 19 = .ok (.iload_n 3, 1) := bdX8_sixteenth_0 (19, .iload_n 3, 1) (List.mem_of_getElem? (i := 12) rfl)
theorem dX8_sixteenth_20 : decode cX8_sixteenth 20 = .ok (.aload_n 0, 1) := bdX8_sixteenth_0 (20, .aload_n 0, 1) (List.mem_of_getElem? (i := 13) rfl)
theorem dX8_sixteenth_21 : decode cX8_sixteenth 21 = .ok (.getfield 9, 3) := bdX8_sixteenth_0 (21, .getfield 9, 3) (List.mem_of_getElem? (i := 14) rfl)
theorem dX8_sixteenth_24 : decode cX8_sixteenth 24 = .ok (.iconst 1, 1) := bdX8_sixteenth_0 (24, .iconst 1, 1) (List.mem_of_getElem? (i := 15) rfl)
theorem dX8_sixteenth_25 : decode cX8_sixteenth 25 = .ok (.iaload, 1) := bdX8_sixteenth_0 (25, .iaload, 1) (List.mem_of_getElem? (i := 16) rfl)
theorem dX8_sixteenth_26 : decode cX8_sixteenth 26 = .ok (.if_icmp .ge 29, 3) := bdX8_sixteenth_0 (26, .if_icmp .ge 29, 3) (List.mem_of_getElem? (i := 17) rfl)
theorem dX8_sixteenth_29 : decode cX8_sixteenth 29 = .ok (.iload_n 2, 1) := bdX8_sixteenth_0 (29, .iload_n 2, 1) (List.mem_of_getElem? (i := 18) rfl)
theorem dX8_sixteenth_30 : decode cX8_sixteenth 30 = .ok (.aload_n 0, 1) := bdX8_sixteenth_0 (30, .aload_n 0, 1) (List.mem_of_getElem? (i := 19) rfl)
theorem dX8_sixteenth_31 : decode cX8_sixteenth 31 = .ok (.iload_n 3, 1) := bdX8_sixteenth_0 (31, .iload_n 3, 1) (List.mem_of_getElem? (i := 20) rfl)
theorem dX8_sixteenth_32 : decode cX8_sixteenth 32 = .ok (.iload_n 1, 1) := bdX8_sixteenth_0 (32, .iload_n 1, 1) (List.mem_of_getElem? (i := 21) rfl)
theorem dX8_sixteenth_33 : decode cX8_sixteenth 33 = .ok (.invokevirtual 134, 3) := bdX8_sixteenth_0 (33, .invokevirtual 134, 3) (List.mem_of_getElem? (i := 22) rfl)
theorem dX8_sixteenth_36 : decode cX8_sixteenth 36 = .ok (.iconst 4, 1) := bdX8_sixteenth_0 (36, .iconst 4, 1) (List.mem_of_getElem? (i := 23) rfl)
theorem dX8_sixteenth_37 : decode cX8_sixteenth 37 = .ok (.if_icmp .ge 7, 3) := bdX8_sixteenth_0 (37, .if_icmp .ge 7, 3) (List.mem_of_getElem? (i := 24) rfl)
theorem dX8_sixteenth_40 : decode cX8_sixteenth 40 = .ok (.iconst 0, 1) := bdX8_sixteenth_0 (40, .iconst 0, 1) (List.mem_of_getElem? (i := 25) rfl)
theorem dX8_sixteenth_41 : decode cX8_sixteenth 41 = .ok (.goto 6, 3) := bdX8_sixteenth_0 (41, .goto 6, 3) (List.mem_of_getElem? (i := 26) rfl)
theorem dX8_sixteenth_44 : decode cX8_sixteenth 44 = .ok (.iconst 1, 1) := bdX8_sixteenth_0 (44, .iconst 1, 1) (List.mem_of_getElem? (i := 27) rfl)
theorem dX8_sixteenth_45 : decode cX8_sixteenth 45 = .ok (.iload_n 3, 1) := bdX8_sixteenth_0 (45, .iload_n 3, 1) (List.mem_of_getElem? (i := 28) rfl)
theorem dX8_sixteenth_48 : decode cX8_sixteenth 48 = .ok (.istore_n 2, 1) := bdX8_sixteenth_0 (48, .istore_n 2, 1) (List.mem_of_getElem? (i := 29) rfl)
theorem dX8_sixteenth_49 : decode cX8_sixteenth 49 = .ok (.iinc 3 1, 3) := bdX8_sixteenth_0 (49, .iinc 3 1, 3) (List.mem_of_getElem? (i := 30) rfl)
theorem dX8_sixteenth_52 : decode cX8_sixteenth 52 = .ok (.goto (-33), 3) := bdX8_sixteenth_0 (52, .goto (-33), 3) (List.mem_of_getElem? (i := 31) rfl)
theorem dX8_sixteenth_55 : decode cX8_sixteenth 55 = .ok (.iload_n 2, 1) := bdX8_sixteenth_0 (55, .iload_n 2, 1) (List.mem_of_getElem? (i := 32) rfl)
theorem dX8_sixteenth_56 : decode cX8_sixteenth 56 = .ok (.ireturn, 1) := bdX8_sixteenth_0 (56, .ireturn, 1) (List.mem_of_getElem? (i := 33) rfl)
theorem dX8_sixteenth_46 : decode cX8_sixteenth 46 = .ok (.ishl, 1) := by decide +kernel
theorem dX8_sixteenth_47 : decode cX8_sixteenth 47 = .ok (.ior, 1) := by decide +kernel
def BX8_sixteenth_47 (ln : Nat → Nat) (post : Int32 → HC → Prop) (K19 : HC → Nat → Int32 → Int32 → Int32 → Prop) (S : HC) (x0 : Nat) (x1 : Int32) (x3 : Int32) (t0 : Int32) (t1 : Int32) : Prop := lt_ (t0 ||| t1) fun z1 => lt_ (x3 + (1 : Int32)) fun z2 => K19 S x0 x1 z1 z2
def LX8_sixteenth_19 (ln : Nat → Nat) (post : Int32 → HC → Prop) : Nat → HC → Nat → Int32 → Int32 → Int32 → Prop
  | 0 => fun _ _ _ _ _ => False
  | n19 + 1 => fun S x0 x1 x2 x3 => dn_ (hR S x0 0) fun b3 => al_ (ln b3) (1 : Int32) (hI S b3) fun z4 => if z4 ≤ x3 then (post x2 S) else (wpX8_borne ln S x0 x3 x1 fun z5 S => if (4 : Int32) ≤ z5 then (lt_ ((1 : Int32) <<< (x3 &&& 31)) fun z6 => BX8_sixteenth_47 ln post (LX8_sixteenth_19 ln post n19) S x0 x1 x3 x2 z6) else (BX8_sixteenth_47 ln post (LX8_sixteenth_19 ln post n19) S x0 x1 x3 x2 (0 : Int32)))
def wpX8_sixteenth (ln : Nat → Nat) (S : HC) (a0 : Nat) (a1 : Int32) (post : Int32 → HC → Prop) : Prop := wpX8_isCharge ln S a1 fun z7 S => if z7 = 0 then (post (-1000000001 : Int32) S) else (wpX8_worksOf ln S a0 a1 fun S => ∃ n19, LX8_sixteenth_19 ln post n19 S a0 a1 (0 : Int32) (0 : Int32))
abbrev rmX8_sixteenth : Room := { frames := 6, cells := 0, slots := 0, locals := 144 }
set_option maxHeartbeats 4000000 in
set_option maxRecDepth 100000 in
theorem ctX8_sixteenth {l : Launch} {g : GX} {N : Nat} {ln : Nat → Nat} {S : HC} {a0 : Nat} {a1 : Int32} {post : Int32 → HC → Prop} (hr_a0 : a0 < N) (hk_a0 : kd a0 = 8) (h : wpX8_sixteenth ln S a0 a1 post) : Met l yX8_sixteenth (Cond.code yX8_sixteenth prog_10_method_40_code 4 (Option.some Jvm.ClassFile.FieldType.int) :: gtbl) rmX8_sixteenth (va_Pc [.ref (gz g + a0), .int a1] (AtP g N ln S)) (QI g N ln post) 0 0 (gF g) := by
  refine m_of (by decide) (Nat.le_of_ble_eq_true rfl) ?_
  intro p e s m below meth c ls F hr I hl
  have hl : lv_has ls 4 [(0, .ref (gz g + a0)), (1, .int a1)] := hl
  unfold wpX8_sixteenth at h
  have hl_19 : ∀ n19 : Nat, ∀ (S : HC) (H : Heap) (locs : List Loc) (ls : Array Slot) (x0 : Nat) (x1 : Int32) (x2 : Int32) (x3 : Int32), x0 < N → kd x0 = 8 → LX8_sixteenth_19 ln post n19 S x0 x1 x2 x3 → Inv g N ln S s H locs → lv_has ls 4 [(0, .ref (gz g + x0)), (1, .int x1), (2, .int x2), (3, .int x3)] → W p l e rmX8_sixteenth s m ([.ref (gz g + a0), .int a1] : List Value).toArray below meth c H locs 0 0 (MQ below (QI g N ln post) ([.ref (gz g + a0), .int a1] : List Value).toArray s 0 0 (gF g)) (F0 m 19 ls []) := by
    intro n19
    induction n19 with
    | zero =>
      intro S H locs ls x0 x1 x2 x3 hr_x0 hk_x0 h I hl
      exact h.elim
    | succ n19 ih =>
      have hk19 := ih
      have hj_47 : ∀ (S : HC) (H : Heap) (locs : List Loc) (ls : Array Slot) (x0 : Nat) (x1 : Int32) (x3 : Int32) (t0 : Int32) (t1 : Int32), x0 < N → kd x0 = 8 → BX8_sixteenth_47 ln post (LX8_sixteenth_19 ln post n19) S x0 x1 x3 t0 t1 → Inv g N ln S s H locs → lv_has ls 4 [(0, .ref (gz g + x0)), (1, .int x1), (3, .int x3)] → W p l e rmX8_sixteenth s m ([.ref (gz g + a0), .int a1] : List Value).toArray below meth c H locs 0 0 (MQ below (QI g N ln post) ([.ref (gz g + a0), .int a1] : List Value).toArray s 0 0 (gF g)) (F0 m 47 ls [.int t1, .int t0]) := by
        intro S H locs ls x0 x1 x3 t0 t1 hr_x0 hk_x0 h I hl
        unfold BX8_sixteenth_47 at h
        refine r_ior F dX8_sixteenth_47 h (fun z1 h => ?_)
        refine lv_istore_n (lv' := [(2, .int z1), (0, .ref (gz g + x0)), (1, .int x1), (3, .int x3)]) F.1 F.2.1 dX8_sixteenth_48 rfl hl (by decide) rfl (fun ls hl => ?_)
        obtain ⟨z2, e_z2, h⟩ := lt_x h
        refine lv_iinc (v := z2) (lv' := [(3, .int z2), (2, .int z1), (0, .ref (gz g + x0)), (1, .int x1)]) F.1 F.2.1 dX8_sixteenth_49 hl (k := 3) rfl (by rw [e_z2]; rfl) (by decide) rfl (fun ls hl => ?_)
        refine lv_goto (tgt := 19) F.1 F.2.1 dX8_sixteenth_52 (by decide) ?_
        exact hk19 S _ _ _ x0 x1 z1 z2 hr_x0 hk_x0 h I (lv_sub hl [2, 3, 1, 0] rfl)
      intro S H locs ls x0 x1 x2 x3 hr_x0 hk_x0 h I hl
      rw [LX8_sixteenth_19] at h
      refine lv_iload_n F.1 F.2.1 dX8_sixteenth_19 rfl (lv_at hl 3 rfl) ?_
      refine lv_aload_n F.1 F.2.1 dX8_sixteenth_20 rfl (lv_at hl 0 rfl) ?_
      refine r_getN F I hr_x0 hk_x0 fX8_9 (f := 9) rfl (by decide) dX8_sixteenth_21 h (fun b3 hr_b3 hk_b3 h => ?_)
      refine lv_iconst (v := 1) F.1 F.2.1 dX8_sixteenth_24 (by decide) ?_
      refine r_ald F I hr_b3 hk_b3 dX8_sixteenth_25 h (fun z4 h => ?_)
      refine r_icmp_ge (tgt := 55) F dX8_sixteenth_26 (by decide) h (fun h => ?_) (fun h => ?_)
      · refine lv_iload_n F.1 F.2.1 dX8_sixteenth_55 rfl (lv_at hl 2 rfl) ?_
        exact r_ireturn F I ⟨hr.1, hr.2.1, trivial⟩ h dX8_sixteenth_56
      · refine lv_iload_n F.1 F.2.1 dX8_sixteenth_29 rfl (lv_at hl 2 rfl) ?_
        refine lv_aload_n F.1 F.2.1 dX8_sixteenth_30 rfl (lv_at hl 0 rfl) ?_
        refine lv_iload_n F.1 F.2.1 dX8_sixteenth_31 rfl (lv_at hl 3 rfl) ?_
        refine lv_iload_n F.1 F.2.1 dX8_sixteenth_32 rfl (lv_at hl 1 rfl) ?_
        refine g_I I (run_V (As := [.int x3, .int x1]) (rest := [.int x2]) F I hr_x0 hk_x0 (by decide) kX8_134 (ctX8_borne hr_x0 hk_x0 h) ⟨rfl, rfl⟩ ⟨Nat.le_of_ble_eq_true rfl, Nat.le_of_ble_eq_true rfl⟩ rfl hl.1 rfl (Nat.le_of_ble_eq_true rfl) ⟨Nat.le_of_ble_eq_true rfl, Nat.le_of_ble_eq_true rfl⟩ dX8_sixteenth_33) (fun z5 S H locs I h => ?_)
        refine lv_iconst (v := 4) F.1 F.2.1 dX8_sixteenth_36 (by decide) ?_
        refine r_icmp_ge (tgt := 44) F dX8_sixteenth_37 (by decide) h (fun h => ?_) (fun h => ?_)
        · refine lv_iconst (v := 1) F.1 F.2.1 dX8_sixteenth_44 (by decide) ?_
          refine lv_iload_n F.1 F.2.1 dX8_sixteenth_45 rfl (lv_at hl 3 rfl) ?_
          refine r_ishl F dX8_sixteenth_46 h (fun z6 h => ?_)
          exact hj_47 S _ _ _ x0 x1 x3 x2 z6 hr_x0 hk_x0 h I (lv_sub hl [0, 1, 3] rfl)
        · refine lv_iconst (v := 0) F.1 F.2.1 dX8_sixteenth_40 (by decide) ?_
          refine lv_goto (tgt := 47) F.1 F.2.1 dX8_sixteenth_41 (by decide) ?_
          exact hj_47 S _ _ _ x0 x1 x3 x2 (0 : Int32) hr_x0 hk_x0 h I (lv_sub hl [0, 1, 3] rfl)
  refine lv_iload_n F.1 F.2.1 dX8_sixteenth_0 rfl (lv_at hl 1 rfl) ?_
  refine g_I I (run_S (As := [.int a1]) (rest := []) F I kX8_95 (ctX8_isCharge h) ⟨rfl, rfl⟩ ⟨Nat.le_of_ble_eq_true rfl, Nat.le_of_ble_eq_true rfl⟩ rfl hl.1 rfl (Nat.le_of_ble_eq_true rfl) ⟨Nat.le_of_ble_eq_true rfl, Nat.le_of_ble_eq_true rfl⟩ dX8_sixteenth_1) (fun z7 S H locs I h => ?_)
  refine r_if_ne (tgt := 10) F dX8_sixteenth_4 (by decide) h (fun h => ?_) (fun h => ?_)
  · refine lv_aload_n F.1 F.2.1 dX8_sixteenth_10 rfl (lv_at hl 0 rfl) ?_
    refine lv_iload_n F.1 F.2.1 dX8_sixteenth_11 rfl (lv_at hl 1 rfl) ?_
    refine g_V I (run_V (As := [.int a1]) (rest := []) F I hr_a0 hk_a0 (by decide) kX8_130 (ctX8_worksOf hr_a0 hk_a0 h) ⟨rfl, rfl⟩ ⟨Nat.le_of_ble_eq_true rfl, Nat.le_of_ble_eq_true rfl⟩ rfl hl.1 rfl (Nat.le_of_ble_eq_true rfl) ⟨Nat.le_of_ble_eq_true rfl, Nat.le_of_ble_eq_true rfl⟩ dX8_sixteenth_12) (fun S H locs I h => ?_)
    refine lv_iconst (v := 0) F.1 F.2.1 dX8_sixteenth_15 (by decide) ?_
    refine lv_istore_n (lv' := [(2, .int (0 : Int32)), (0, .ref (gz g + a0)), (1, .int a1)]) F.1 F.2.1 dX8_sixteenth_16 rfl hl (by decide) rfl (fun ls hl => ?_)
    refine lv_iconst (v := 0) F.1 F.2.1 dX8_sixteenth_17 (by decide) ?_
    refine lv_istore_n (lv' := [(3, .int (0 : Int32)), (2, .int (0 : Int32)), (0, .ref (gz g + a0)), (1, .int a1)]) F.1 F.2.1 dX8_sixteenth_18 rfl hl (by decide) rfl (fun ls hl => ?_)
    obtain ⟨n19, h⟩ := h
    exact hl_19 n19 S _ _ _ a0 a1 (0 : Int32) (0 : Int32) hr_a0 hk_a0 h I (lv_sub hl [2, 3, 1, 0] rfl)
  · refine lv_ldc F.1 F.2.1 F.2.2.2.1 (F.2.2.2.2 _ tw_1064) dX8_sixteenth_7 ?_
    exact r_ireturn F I ⟨hr.1, hr.2.1, trivial⟩ h dX8_sixteenth_9
theorem bdX8_from_0 : ∀ q ∈ ([(0, .aload_n 0, 1), (1, .iload_n 1, 1), (2, .invokevirtual 83, 3), (5, .ifCond .eq 10, 3), (8, .iload_n 2, 1), (9, .invokestatic 95, 3), (12, .ifCond .ne 6, 3), (15, .ldc 98, 2), (17, .ireturn, 1), (18, .iconst 1, 1), (19, .iload_n 1, 1), (21, .istore_n 3, 1), (22, .iconst (-1), 1), (23, .istore 4, 2), (25, .iload_n 1, 1), (26, .istore 5, 2), (28, .iload 5, 2), (30, .ifCond .lt 101, 3), (33, .iload_n 3, 1), (34, .iload 5, 2), (37, .iconst 1, 1), (38, .iand, 1), (39, .iconst 1, 1), (40, .if_icmp .ne 85, 3), (43, .iload_n 3, 1), (44, .aload_n 0, 1), (45, .iload 5, 2), (47, .iconst 1, 1), (48, .invokevirtual 87, 3), (51, .ifCond .ge 7, 3), (54, .iconst 0, 1), (55, .goto 12, 3), (58, .iconst 1, 1), (59, .aload_n 0, 1), (60, .iload 5, 2), (62, .iconst 1, 1), (63, .invokevirtual 87, 3), (68, .istore_n 3, 1), (69, .iload_n 3, 1), (70, .aload_n 0, 1)] : List (Nat × Jvm.ClassFile.Instr × Nat)), decode cX8_from q.1 = .ok q.2 := chk_ok _ 0 _ rfl (by decide +kernel)
theorem dX8_from_0 : decode cX8_from 0 = .ok (.aload_n 0, 1) := bdX8_from_0 (0, .aload_n 0, 1) (List.mem_of_getElem? (i := 0) rfl)
theorem dX8_from_1 : decode cX8_from 1 = .ok (.iload_n 1, 1) := bdX8_from_0 (1, .iload_n 1, 1) (List.mem_of_getElem? (i := 1) rfl)
theorem dX8_from_2 : decode cX8_from 2 = .ok (.invokevirtual 83, 3) := bdX8_from_0 (2, .invokevirtual 83, 3) (List.mem_of_getElem? (i := 2) rfl)
theorem dX8_from_5 : decode cX8_from 5 = .ok (.ifCond .eq 10, 3) := bdX8_from_0 (5, .ifCond .eq 10, 3) (List.mem_of_getElem? (i := 3) rfl)
theorem dX8_from_8 : decode cX8_from 8 = .ok (.iload_n 2, 1) := bdX8_from_0 (8, .iload_n 2, 1) (List.mem_of_getElem? (i := 4) rfl)
theorem dX8_from_9 : decode cX8_from 9 = .ok (.invokestatic 95, 3) := bdX8_from_0 (9, .invokestatic 95, 3) (List.mem_of_getElem? (i := 5) rfl)
theorem dX8_from_12 : decode cX8_from 12 = .ok (.ifCond .ne 6, 3) := bdX8_from_0 (12, .ifCond .ne 6, 3) (List.mem_of_getElem? (i := 6) rfl)
theorem dX8_from_15 : decode cX8_from 15 = .ok (.ldc 98, 2) := bdX8_from_0 (15, .ldc 98, 2) (List.mem_of_getElem? (i := 7) rfl)
theorem dX8_from_17 : decode cX8_from 17 = .ok (.ireturn, 1) := bdX8_from_0 (17, .ireturn, 1) (List.mem_of_getElem? (i := 8) rfl)
theorem dX8_from_18 : decode cX8_from 18 = .ok (.iconst 1, 1) := bdX8_from_0 (18, .iconst 1, 1) (List.mem_of_getElem? (i := 9) rfl)
theorem dX8_from_19 : decode cX8_from 19 = .ok (.iload_n 1, 1) := bdX8_from_0 (19, .iload_n 1, 1) (List.mem_of_getElem? (i := 10) rfl)
theorem dX8_from_21 : decode cX8_from 21 = .ok (.istore_n 3, 1) := bdX8_from_0 (21, .istore_n 3, 1) (List.mem_of_getElem? (i := 11) rfl)
theorem dX8_from_22 : decode cX8_from 22 = .ok (.iconst (-1), 1) := bdX8_from_0 (22, .iconst (-1), 1) (List.mem_of_getElem? (i := 12) rfl)
theorem dX8_from_23 : decode cX8_from 23 = .ok (.istore 4, 2) := bdX8_from_0 (23, .istore 4, 2) (List.mem_of_getElem? (i := 13) rfl)
theorem dX8_from_25 : decode cX8_from 25 = .ok (.iload_n 1, 1) := bdX8_from_0 (25, .iload_n 1, 1) (List.mem_of_getElem? (i := 14) rfl)
theorem dX8_from_26 : decode cX8_from 26 = .ok (.istore 5, 2) := bdX8_from_0 (26, .istore 5, 2) (List.mem_of_getElem? (i := 15) rfl)
theorem dX8_from_28 : decode cX8_from 28 = .ok (.iload 5, 2) := bdX8_from_0 (28, .iload 5, 2) (List.mem_of_getElem? (i := 16) rfl)
theorem dX8_from_30 : decode cX8_from 30 = .ok (.ifCond .lt 101, 3) := bdX8_from_0 (30, .ifCond .lt 101, 3) (List.mem_of_getElem? (i := 17) rfl)
theorem dX8_from_33 : decode cX8_from 33 = .ok (.iload_n 3, 1) := bdX8_from_0 (33, .iload_n 3, 1) (List.mem_of_getElem? (i := 18) rfl)
theorem dX8_from_34 : decode cX8_from 34 = .ok (.iload 5, 2) := bdX8_from_0 (34, .iload 5, 2) (List.mem_of_getElem? (i := 19) rfl)
theorem dX8_from_37 : decode cX8_from 37 = .ok (.iconst 1, 1) := bdX8_from_0 (37, .iconst 1, 1) (List.mem_of_getElem? (i := 20) rfl)
theorem dX8_from_38 : decode cX8_from 38 = .ok (.iand, 1) := bdX8_from_0 (38, .iand, 1) (List.mem_of_getElem? (i := 21) rfl)
theorem dX8_from_39 : decode cX8_from 39 = .ok (.iconst 1, 1) := bdX8_from_0 (39, .iconst 1, 1) (List.mem_of_getElem? (i := 22) rfl)
theorem dX8_from_40 : decode cX8_from 40 = .ok (.if_icmp .ne 85, 3) := bdX8_from_0 (40, .if_icmp .ne 85, 3) (List.mem_of_getElem? (i := 23) rfl)
theorem dX8_from_43 : decode cX8_from 43 = .ok (.iload_n 3, 1) := bdX8_from_0 (43, .iload_n 3, 1) (List.mem_of_getElem? (i := 24) rfl)
theorem dX8_from_44 : decode cX8_from 44 = .ok (.aload_n 0, 1) := bdX8_from_0 (44, .aload_n 0, 1) (List.mem_of_getElem? (i := 25) rfl)
theorem dX8_from_45 : decode cX8_from 45 = .ok (.iload 5, 2) := bdX8_from_0 (45, .iload 5, 2) (List.mem_of_getElem? (i := 26) rfl)
theorem dX8_from_47 : decode cX8_from 47 = .ok (.iconst 1, 1) := bdX8_from_0 (47, .iconst 1, 1) (List.mem_of_getElem? (i := 27) rfl)
theorem dX8_from_48 : decode cX8_from 48 = .ok (.invokevirtual 87, 3) := bdX8_from_0 (48, .invokevirtual 87, 3) (List.mem_of_getElem? (i := 28) rfl)
theorem dX8_from_51 : decode cX8_from 51 = .ok (.ifCond .ge 7, 3) := bdX8_from_0 (51, .ifCond .ge 7, 3) (List.mem_of_getElem? (i := 29) rfl)
theorem dX8_from_54 : decode cX8_from 54 = .ok (.iconst 0, 1) := bdX8_from_0 (54, .iconst 0, 1) (List.mem_of_getElem? (i := 30) rfl)
theorem dX8_from_55 : decode cX8_from 55 = .ok (.goto 12, 3) := bdX8_from_0 (55, .goto 12, 3) (List.mem_of_getElem? (i := 31) rfl)
theorem dX8_from_58 : decode cX8_from 58 = .ok (.iconst 1, 1) := bdX8_from_0 (58, .iconst 1, 1) (List.mem_of_getElem? (i := 32) rfl)
theorem dX8_from_59 : decode cX8_from 59 = .ok (.aload_n 0, 1) := bdX8_from_0 (59, .aload_n 0, 1) (List.mem_of_getElem? (i := 33) rfl)
theorem dX8_from_60 : decode cX8_from 60 = .ok (.iload 5, 2) := bdX8_from_0 (60, .iload 5, 2) (List.mem_of_getElem? (i := 34) rfl)
theorem dX8_from_62 : decode cX8_from 62 = .ok (.iconst 1, 1) := bdX8_from_0 (62, .iconst 1, 1) (List.mem_of_getElem? (i := 35) rfl)
theorem dX8_from_63 : decode cX8_from 63 = .ok (.invokevirtual 87, 3) := bdX8_from_0 (63, .invokevirtual 87, 3) (List.mem_of_getElem? (i := 36) rfl)
theorem dX8_from_68 : decode cX8_from 68 = .ok (.istore_n 3, 1) := bdX8_from_0 (68, .istore_n 3, 1) (List.mem_of_getElem? (i := 37) rfl)
theorem dX8_from_69 : decode cX8_from 69 = .ok (.iload_n 3, 1) := bdX8_from_0 (69, .iload_n 3, 1) (List.mem_of_getElem? (i := 38) rfl)
theorem dX8_from_70 : decode cX8_from 70 = .ok (.aload_n 0, 1) := bdX8_from_0 (70, .aload_n 0, 1) (List.mem_of_getElem? (i := 39) rfl)
theorem bdX8_from_71 : ∀ q ∈ ([(71, .iload 5, 2), (73, .iconst 2, 1), (74, .invokevirtual 87, 3), (77, .ifCond .ge 7, 3), (80, .iconst 0, 1), (81, .goto 12, 3), (84, .iconst 1, 1), (85, .aload_n 0, 1), (86, .iload 5, 2), (88, .iconst 2, 1), (89, .invokevirtual 87, 3), (94, .istore_n 3, 1), (95, .aload_n 0, 1), (96, .iload 5, 2), (98, .iconst 1, 1), (99, .invokevirtual 87, 3), (102, .ifCond .ge 19, 3), (105, .aload_n 0, 1), (106, .iload 5, 2), (108, .iconst 4, 1), (109, .invokevirtual 87, 3), (112, .iload_n 2, 1), (113, .if_icmp .ne 8, 3), (116, .iload 5, 2), (118, .goto 5, 3), (121, .iload 4, 2), (123, .istore 4, 2), (125, .iinc 5 (-1), 3), (128, .goto (-100), 3), (131, .iload 4, 2), (133, .invokestatic 170, 3), (136, .ireturn, 1)] : List (Nat × Jvm.ClassFile.Instr × Nat)), decode cX8_from q.1 = .ok q.2 := chk_ok _ 71 _ rfl (by decide +kernel)
theorem dX8_from_71 : decode cX8_from 71 = .ok (.iload 5, 2) := bdX8_from_71 (71, .iload 5, 2) (List.mem_of_getElem? (i := 0) rfl)
theorem dX8_from_73 : decode cX8_from 73 = .ok (.iconst 2, 1) := bdX8_from_71 (73, .iconst 2, 1) (List.mem_of_getElem? (i := 1) rfl)
theorem dX8_from_74 : decode cX8_from 74 = .ok (.invokevirtual 87, 3) := bdX8_from_71 (74, .invokevirtual 87, 3) (List.mem_of_getElem? (i := 2) rfl)
theorem dX8_from_77 : decode cX8_from 77 = .ok (.ifCond .ge 7, 3) := bdX8_from_71 (77, .ifCond .ge 7, 3) (List.mem_of_getElem? (i := 3) rfl)
theorem dX8_from_80 : decode cX8_from 80 = .ok (.iconst 0, 1) := bdX8_from_71 (80, .iconst 0, 1) (List.mem_of_getElem? (i := 4) rfl)
theorem dX8_from_81 : decode cX8_from 81 = .ok (.goto 12, 3) := bdX8_from_71 (81, .goto 12, 3) (List.mem_of_getElem? (i := 5) rfl)
theorem dX8_from_84 : decode cX8_from 84 = .ok (.iconst 1, 1) := bdX8_from_71 (84, .iconst 1, 1) (List.mem_of_getElem? (i := 6) rfl)
theorem dX8_from_85 : decode cX8_from 85 = .ok (.aload_n 0, 1) := bdX8_from_71 (85, .aload_n 0, 1) (List.mem_of_getElem? (i := 7) rfl)
theorem dX8_from_86 : decode cX8_from 86 = .ok (.iload 5, 2) := bdX8_from_71 (86, .iload 5, 2) (List.mem_of_getElem? (i := 8) rfl)
theorem dX8_from_88 : decode cX8_from 88 = .ok (.iconst 2, 1) := bdX8_from_71 (88, .iconst 2, 1) (List.mem_of_getElem? (i := 9) rfl)
theorem dX8_from_89 : decode cX8_from 89 = .ok (.invokevirtual 87, 3) := bdX8_from_71 (89, .invokevirtual 87, 3) (List.mem_of_getElem? (i := 10) rfl)
theorem dX8_from_94 : decode cX8_from 94 = .ok (.istore_n 3, 1) := bdX8_from_71 (94, .istore_n 3, 1) (List.mem_of_getElem? (i := 11) rfl)
theorem dX8_from_95 : decode cX8_from 95 = .ok (.aload_n 0, 1) := bdX8_from_71 (95, .aload_n 0, 1) (List.mem_of_getElem? (i := 12) rfl)
theorem dX8_from_96 : decode cX8_from 96 = .ok (.iload 5, 2) := bdX8_from_71 (96, .iload 5, 2) (List.mem_of_getElem? (i := 13) rfl)
theorem dX8_from_98 : decode cX8_from 98 = .ok (.iconst 1, 1) := bdX8_from_71 (98, .iconst 1, 1) (List.mem_of_getElem? (i := 14) rfl)
theorem dX8_from_99 : decode cX8_from 99 = .ok (.invokevirtual 87, 3) := bdX8_from_71 (99, .invokevirtual 87, 3) (List.mem_of_getElem? (i := 15) rfl)
theorem dX8_from_102 : decode cX8_from 102 = .ok (.ifCond .ge 19, 3) := bdX8_from_71 (102, .ifCond .ge 19, 3) (List.mem_of_getElem? (i := 16) rfl)
theorem dX8_from_105 : decode cX8_from 105 = .ok (.aload_n 0, 1) := bdX8_from_71 (105, .aload_n 0, 1) (List.mem_of_getElem? (i := 17) rfl)
theorem dX8_from_106 : decode cX8_from 106 = .ok (.iload 5, 2) := bdX8_from_71 (106, .iload 5, 2) (List.mem_of_getElem? (i := 18) rfl)
theorem dX8_from_108 : decode cX8_from 108 = .ok (.iconst 4, 1) := bdX8_from_71 (108, .iconst 4, 1) (List.mem_of_getElem? (i := 19) rfl)
theorem dX8_from_109 : decode cX8_from 109 = .ok (.invokevirtual 87, 3) := bdX8_from_71 (109, .invokevirtual 87, 3) (List.mem_of_getElem? (i := 20) rfl)
theorem dX8_from_112 : decode cX8_from 112 = .ok (.iload_n 2, 1) := bdX8_from_71 (112, .iload_n 2, 1) (List.mem_of_getElem? (i := 21) rfl)
theorem dX8_from_113 : decode cX8_from 113 = .ok (.if_icmp .ne 8, 3) := bdX8_from_71 (113, .if_icmp .ne 8, 3) (List.mem_of_getElem? (i := 22) rfl)
theorem dX8_from_116 : decode cX8_from 116 = .ok (.iload 5, 2) := bdX8_from_71 (116, .iload 5, 2) (List.mem_of_getElem? (i := 23) rfl)
theorem dX8_from_118 : decode cX8_from 118 = .ok (.goto 5, 3) := bdX8_from_71 (118, .goto 5, 3) (List.mem_of_getElem? (i := 24) rfl)
theorem dX8_from_121 : decode cX8_from 121 = .ok (.iload 4, 2) := bdX8_from_71 (121, .iload 4, 2) (List.mem_of_getElem? (i := 25) rfl)
theorem dX8_from_123 : decode cX8_from 123 = .ok (.istore 4, 2) := bdX8_from_71 (123, .istore 4, 2) (List.mem_of_getElem? (i := 26) rfl)
theorem dX8_from_125 : decode cX8_from 125 = .ok (.iinc 5 (-1), 3) := bdX8_from_71 (125, .iinc 5 (-1), 3) (List.mem_of_getElem? (i := 27) rfl)
theorem dX8_from_128 : decode cX8_from 128 = .ok (.goto (-100), 3) := bdX8_from_71 (128, .goto (-100), 3) (List.mem_of_getElem? (i := 28) rfl)
theorem dX8_from_131 : decode cX8_from 131 = .ok (.iload 4, 2) := bdX8_from_71 (131, .iload 4, 2) (List.mem_of_getElem? (i := 29) rfl)
theorem dX8_from_133 : decode cX8_from 133 = .ok (.invokestatic 170, 3) := bdX8_from_71 (133, .invokestatic 170, 3) (List.mem_of_getElem? (i := 30) rfl)
theorem dX8_from_136 : decode cX8_from 136 = .ok (.ireturn, 1) := bdX8_from_71 (136, .ireturn, 1) (List.mem_of_getElem? (i := 31) rfl)
theorem budX8_from_20 : ∀ q ∈ ([(20, .ok (.ishl, 1)), (36, .ok (.ishr, 1)), (66, .ok (.ishl, 1)), (67, .ok (.ior, 1)), (92, .ok (.ishl, 1)), (93, .ok (.ior, 1))] : List (Nat × Except Jvm.ClassFile.DecodeError (Jvm.ClassFile.Instr × Nat))), decode cX8_from q.1 = q.2 := by decide +kernel
theorem dX8_from_20 : decode cX8_from 20 = .ok (.ishl, 1) := budX8_from_20 (20, .ok (.ishl, 1)) (List.mem_of_getElem? (i := 0) rfl)
theorem dX8_from_36 : decode cX8_from 36 = .ok (.ishr, 1) := budX8_from_20 (36, .ok (.ishr, 1)) (List.mem_of_getElem? (i := 1) rfl)
theorem dX8_from_66 : decode cX8_from 66 = .ok (.ishl, 1) := budX8_from_20 (66, .ok (.ishl, 1)) (List.mem_of_getElem? (i := 2) rfl)
theorem dX8_from_67 : decode cX8_from 67 = .ok (.ior, 1) := budX8_from_20 (67, .ok (.ior, 1)) (List.mem_of_getElem? (i := 3) rfl)
theorem dX8_from_92 : decode cX8_from 92 = .ok (.ishl, 1) := budX8_from_20 (92, .ok (.ishl, 1)) (List.mem_of_getElem? (i := 4) rfl)
theorem dX8_from_93 : decode cX8_from 93 = .ok (.ior, 1) := budX8_from_20 (93, .ok (.ior, 1)) (List.mem_of_getElem? (i := 5) rfl)
theorem kX8_170 : mthS RX8 170 yX8_told0 prog_10_method_5_code 1 (Option.some Jvm.ClassFile.FieldType.int) 1 := ⟨⟨⟨tw_1205, tw_67, tw_1207⟩, rfl, by decide +kernel⟩, tw_1206⟩
def BX8_from_125 (ln : Nat → Nat) (post : Int32 → HC → Prop) (K28 : HC → Nat → Int32 → Int32 → Int32 → Int32 → Prop) (S : HC) (x0 : Nat) (x2 : Int32) (x3 : Int32) (x4 : Int32) (x5 : Int32) : Prop := lt_ (x5 + (-1 : Int32)) fun z1 => K28 S x0 x2 x3 x4 z1
def BX8_from_123 (ln : Nat → Nat) (post : Int32 → HC → Prop) (K28 : HC → Nat → Int32 → Int32 → Int32 → Int32 → Prop) (S : HC) (x0 : Nat) (x2 : Int32) (x3 : Int32) (x5 : Int32) (t0 : Int32) : Prop := BX8_from_125 ln post K28 S x0 x2 x3 t0 x5
def BX8_from_121 (ln : Nat → Nat) (post : Int32 → HC → Prop) (K28 : HC → Nat → Int32 → Int32 → Int32 → Int32 → Prop) (S : HC) (x0 : Nat) (x2 : Int32) (x3 : Int32) (x4 : Int32) (x5 : Int32) : Prop := BX8_from_123 ln post K28 S x0 x2 x3 x5 x4
def BX8_from_93 (ln : Nat → Nat) (post : Int32 → HC → Prop) (K28 : HC → Nat → Int32 → Int32 → Int32 → Int32 → Prop) (S : HC) (x0 : Nat) (x2 : Int32) (x4 : Int32) (x5 : Int32) (t0 : Int32) (t1 : Int32) : Prop := lt_ (t0 ||| t1) fun z2 => wpX8_of ln S x0 x5 (1 : Int32) fun z3 S => if 0 ≤ z3 then (BX8_from_121 ln post K28 S x0 x2 z2 x4 x5) else (wpX8_of ln S x0 x5 (4 : Int32) fun z4 S => if z4 = x2 then (BX8_from_123 ln post K28 S x0 x2 z2 x5 x5) else (BX8_from_121 ln post K28 S x0 x2 z2 x4 x5))
def BX8_from_67 (ln : Nat → Nat) (post : Int32 → HC → Prop) (K28 : HC → Nat → Int32 → Int32 → Int32 → Int32 → Prop) (S : HC) (x0 : Nat) (x2 : Int32) (x4 : Int32) (x5 : Int32) (t0 : Int32) (t1 : Int32) : Prop := lt_ (t0 ||| t1) fun z5 => wpX8_of ln S x0 x5 (2 : Int32) fun z6 S => if 0 ≤ z6 then (wpX8_of ln S x0 x5 (2 : Int32) fun z7 S => lt_ ((1 : Int32) <<< (z7 &&& 31)) fun z8 => BX8_from_93 ln post K28 S x0 x2 x4 x5 z5 z8) else (BX8_from_93 ln post K28 S x0 x2 x4 x5 z5 (0 : Int32))
def LX8_from_28 (ln : Nat → Nat) (post : Int32 → HC → Prop) : Nat → HC → Nat → Int32 → Int32 → Int32 → Int32 → Prop
  | 0 => fun _ _ _ _ _ _ => False
  | n28 + 1 => fun S x0 x2 x3 x4 x5 => if x5 < 0 then (wpX8_told0 ln S x4 fun z9 S => post z9 S) else (lt_ (x3 >>> (x5 &&& 31)) fun z10 => lt_ (z10 &&& (1 : Int32)) fun z11 => if z11 = (1 : Int32) then (wpX8_of ln S x0 x5 (1 : Int32) fun z12 S => if 0 ≤ z12 then (wpX8_of ln S x0 x5 (1 : Int32) fun z13 S => lt_ ((1 : Int32) <<< (z13 &&& 31)) fun z14 => BX8_from_67 ln post (LX8_from_28 ln post n28) S x0 x2 x4 x5 x3 z14) else (BX8_from_67 ln post (LX8_from_28 ln post n28) S x0 x2 x4 x5 x3 (0 : Int32))) else (BX8_from_125 ln post (LX8_from_28 ln post n28) S x0 x2 x3 x4 x5))
def BX8_from_15 (ln : Nat → Nat) (post : Int32 → HC → Prop) (S : HC)  : Prop := post (-1000000001 : Int32) S
def wpX8_from (ln : Nat → Nat) (S : HC) (a0 : Nat) (a1 : Int32) (a2 : Int32) (post : Int32 → HC → Prop) : Prop := wpX8_isOne ln S a0 a1 fun z15 S => if z15 = 0 then (BX8_from_15 ln post S) else (wpX8_isCharge ln S a2 fun z16 S => if z16 = 0 then (BX8_from_15 ln post S) else (lt_ ((1 : Int32) <<< (a1 &&& 31)) fun z17 => ∃ n28, LX8_from_28 ln post n28 S a0 a2 z17 (-1 : Int32) a1))
abbrev rmX8_from : Room := { frames := 2, cells := 0, slots := 0, locals := 43 }
set_option maxHeartbeats 4000000 in
set_option maxRecDepth 100000 in
theorem ctX8_from {l : Launch} {g : GX} {N : Nat} {ln : Nat → Nat} {S : HC} {a0 : Nat} {a1 : Int32} {a2 : Int32} {post : Int32 → HC → Prop} (hr_a0 : a0 < N) (hk_a0 : kd a0 = 8) (h : wpX8_from ln S a0 a1 a2 post) : Met l yX8_from (Cond.code yX8_from prog_10_method_41_code 6 (Option.some Jvm.ClassFile.FieldType.int) :: gtbl) rmX8_from (va_Pc [.ref (gz g + a0), .int a1, .int a2] (AtP g N ln S)) (QI g N ln post) 0 0 (gF g) := by
  refine m_of (by decide) (Nat.le_of_ble_eq_true rfl) ?_
  intro p e s m below meth c ls F hr I hl
  have hl : lv_has ls 6 [(0, .ref (gz g + a0)), (1, .int a1), (2, .int a2)] := hl
  unfold wpX8_from at h
  have hl_28 : ∀ n28 : Nat, ∀ (S : HC) (H : Heap) (locs : List Loc) (ls : Array Slot) (x0 : Nat) (x2 : Int32) (x3 : Int32) (x4 : Int32) (x5 : Int32), x0 < N → kd x0 = 8 → LX8_from_28 ln post n28 S x0 x2 x3 x4 x5 → Inv g N ln S s H locs → lv_has ls 6 [(0, .ref (gz g + x0)), (2, .int x2), (3, .int x3), (4, .int x4), (5, .int x5)] → W p l e rmX8_from s m ([.ref (gz g + a0), .int a1, .int a2] : List Value).toArray below meth c H locs 0 0 (MQ below (QI g N ln post) ([.ref (gz g + a0), .int a1, .int a2] : List Value).toArray s 0 0 (gF g)) (F0 m 28 ls []) := by
    intro n28
    induction n28 with
    | zero =>
      intro S H locs ls x0 x2 x3 x4 x5 hr_x0 hk_x0 h I hl
      exact h.elim
    | succ n28 ih =>
      have hk28 := ih
      have hj_125 : ∀ (S : HC) (H : Heap) (locs : List Loc) (ls : Array Slot) (x0 : Nat) (x2 : Int32) (x3 : Int32) (x4 : Int32) (x5 : Int32), x0 < N → kd x0 = 8 → BX8_from_125 ln post (LX8_from_28 ln post n28) S x0 x2 x3 x4 x5 → Inv g N ln S s H locs → lv_has ls 6 [(0, .ref (gz g + x0)), (2, .int x2), (3, .int x3), (4, .int x4), (5, .int x5)] → W p l e rmX8_from s m ([.ref (gz g + a0), .int a1, .int a2] : List Value).toArray below meth c H locs 0 0 (MQ below (QI g N ln post) ([.ref (gz g + a0), .int a1, .int a2] : List Value).toArray s 0 0 (gF g)) (F0 m 125 ls []) := by
        intro S H locs ls x0 x2 x3 x4 x5 hr_x0 hk_x0 h I hl
        unfold BX8_from_125 at h
        obtain ⟨z1, e_z1, h⟩ := lt_x h
        refine lv_iinc (v := z1) (lv' := [(5, .int z1), (0, .ref (gz g + x0)), (2, .int x2), (3, .int x3), (4, .int x4)]) F.1 F.2.1 dX8_from_125 hl (k := 4) rfl (by rw [e_z1]; rfl) (by decide) rfl (fun ls hl => ?_)
        refine lv_goto (tgt := 28) F.1 F.2.1 dX8_from_128 (by decide) ?_
        exact hk28 S _ _ _ x0 x2 x3 x4 z1 hr_x0 hk_x0 h I (lv_sub hl [1, 2, 3, 4, 0] rfl)
      have hj_123 : ∀ (S : HC) (H : Heap) (locs : List Loc) (ls : Array Slot) (x0 : Nat) (x2 : Int32) (x3 : Int32) (x5 : Int32) (t0 : Int32), x0 < N → kd x0 = 8 → BX8_from_123 ln post (LX8_from_28 ln post n28) S x0 x2 x3 x5 t0 → Inv g N ln S s H locs → lv_has ls 6 [(0, .ref (gz g + x0)), (2, .int x2), (3, .int x3), (5, .int x5)] → W p l e rmX8_from s m ([.ref (gz g + a0), .int a1, .int a2] : List Value).toArray below meth c H locs 0 0 (MQ below (QI g N ln post) ([.ref (gz g + a0), .int a1, .int a2] : List Value).toArray s 0 0 (gF g)) (F0 m 123 ls [.int t0]) := by
        intro S H locs ls x0 x2 x3 x5 t0 hr_x0 hk_x0 h I hl
        unfold BX8_from_123 at h
        refine lv_istore (lv' := [(4, .int t0), (0, .ref (gz g + x0)), (2, .int x2), (3, .int x3), (5, .int x5)]) F.1 F.2.1 dX8_from_123 hl (by decide) rfl (fun ls hl => ?_)
        exact hj_125 S _ _ _ x0 x2 x3 t0 x5 hr_x0 hk_x0 h I (lv_sub hl [1, 2, 3, 0, 4] rfl)
      have hj_121 : ∀ (S : HC) (H : Heap) (locs : List Loc) (ls : Array Slot) (x0 : Nat) (x2 : Int32) (x3 : Int32) (x4 : Int32) (x5 : Int32), x0 < N → kd x0 = 8 → BX8_from_121 ln post (LX8_from_28 ln post n28) S x0 x2 x3 x4 x5 → Inv g N ln S s H locs → lv_has ls 6 [(0, .ref (gz g + x0)), (2, .int x2), (3, .int x3), (4, .int x4), (5, .int x5)] → W p l e rmX8_from s m ([.ref (gz g + a0), .int a1, .int a2] : List Value).toArray below meth c H locs 0 0 (MQ below (QI g N ln post) ([.ref (gz g + a0), .int a1, .int a2] : List Value).toArray s 0 0 (gF g)) (F0 m 121 ls []) := by
        intro S H locs ls x0 x2 x3 x4 x5 hr_x0 hk_x0 h I hl
        unfold BX8_from_121 at h
        refine lv_iload F.1 F.2.1 dX8_from_121 (lv_at hl 3 rfl) ?_
        exact hj_123 S _ _ _ x0 x2 x3 x5 x4 hr_x0 hk_x0 h I (lv_sub hl [0, 1, 2, 4] rfl)
      have hj_93 : ∀ (S : HC) (H : Heap) (locs : List Loc) (ls : Array Slot) (x0 : Nat) (x2 : Int32) (x4 : Int32) (x5 : Int32) (t0 : Int32) (t1 : Int32), x0 < N → kd x0 = 8 → BX8_from_93 ln post (LX8_from_28 ln post n28) S x0 x2 x4 x5 t0 t1 → Inv g N ln S s H locs → lv_has ls 6 [(0, .ref (gz g + x0)), (2, .int x2), (4, .int x4), (5, .int x5)] → W p l e rmX8_from s m ([.ref (gz g + a0), .int a1, .int a2] : List Value).toArray below meth c H locs 0 0 (MQ below (QI g N ln post) ([.ref (gz g + a0), .int a1, .int a2] : List Value).toArray s 0 0 (gF g)) (F0 m 93 ls [.int t1, .int t0]) := by
        intro S H locs ls x0 x2 x4 x5 t0 t1 hr_x0 hk_x0 h I hl
        unfold BX8_from_93 at h
        refine r_ior F dX8_from_93 h (fun z2 h => ?_)
        refine lv_istore_n (lv' := [(3, .int z2), (0, .ref (gz g + x0)), (2, .int x2), (4, .int x4), (5, .int x5)]) F.1 F.2.1 dX8_from_94 rfl hl (by decide) rfl (fun ls hl => ?_)
        refine lv_aload_n F.1 F.2.1 dX8_from_95 rfl (lv_at hl 1 rfl) ?_
        refine lv_iload F.1 F.2.1 dX8_from_96 (lv_at hl 4 rfl) ?_
        refine lv_iconst (v := 1) F.1 F.2.1 dX8_from_98 (by decide) ?_
        refine g_I I (run_V (As := [.int x5, .int (1 : Int32)]) (rest := []) F I hr_x0 hk_x0 (by decide) kX8_87 (ctX8_of hr_x0 hk_x0 h) ⟨rfl, rfl⟩ ⟨Nat.le_of_ble_eq_true rfl, Nat.le_of_ble_eq_true rfl⟩ rfl hl.1 rfl (Nat.le_of_ble_eq_true rfl) ⟨Nat.le_of_ble_eq_true rfl, Nat.le_of_ble_eq_true rfl⟩ dX8_from_99) (fun z3 S H locs I h => ?_)
        refine r_if_ge (tgt := 121) F dX8_from_102 (by decide) h (fun h => ?_) (fun h => ?_)
        · exact hj_121 S _ _ _ x0 x2 z2 x4 x5 hr_x0 hk_x0 h I (lv_sub hl [1, 2, 0, 3, 4] rfl)
        · refine lv_aload_n F.1 F.2.1 dX8_from_105 rfl (lv_at hl 1 rfl) ?_
          refine lv_iload F.1 F.2.1 dX8_from_106 (lv_at hl 4 rfl) ?_
          refine lv_iconst (v := 4) F.1 F.2.1 dX8_from_108 (by decide) ?_
          refine g_I I (run_V (As := [.int x5, .int (4 : Int32)]) (rest := []) F I hr_x0 hk_x0 (by decide) kX8_87 (ctX8_of hr_x0 hk_x0 h) ⟨rfl, rfl⟩ ⟨Nat.le_of_ble_eq_true rfl, Nat.le_of_ble_eq_true rfl⟩ rfl hl.1 rfl (Nat.le_of_ble_eq_true rfl) ⟨Nat.le_of_ble_eq_true rfl, Nat.le_of_ble_eq_true rfl⟩ dX8_from_109) (fun z4 S H locs I h => ?_)
          refine lv_iload_n F.1 F.2.1 dX8_from_112 rfl (lv_at hl 2 rfl) ?_
          refine r_icmp_ne (tgt := 121) F dX8_from_113 (by decide) h (fun h => ?_) (fun h => ?_)
          · exact hj_121 S _ _ _ x0 x2 z2 x4 x5 hr_x0 hk_x0 h I (lv_sub hl [1, 2, 0, 3, 4] rfl)
          · refine lv_iload F.1 F.2.1 dX8_from_116 (lv_at hl 4 rfl) ?_
            refine lv_goto (tgt := 123) F.1 F.2.1 dX8_from_118 (by decide) ?_
            exact hj_123 S _ _ _ x0 x2 z2 x5 x5 hr_x0 hk_x0 h I (lv_sub hl [1, 2, 0, 4] rfl)
      have hj_67 : ∀ (S : HC) (H : Heap) (locs : List Loc) (ls : Array Slot) (x0 : Nat) (x2 : Int32) (x4 : Int32) (x5 : Int32) (t0 : Int32) (t1 : Int32), x0 < N → kd x0 = 8 → BX8_from_67 ln post (LX8_from_28 ln post n28) S x0 x2 x4 x5 t0 t1 → Inv g N ln S s H locs → lv_has ls 6 [(0, .ref (gz g + x0)), (2, .int x2), (4, .int x4), (5, .int x5)] → W p l e rmX8_from s m ([.ref (gz g + a0), .int a1, .int a2] : List Value).toArray below meth c H locs 0 0 (MQ below (QI g N ln post) ([.ref (gz g + a0), .int a1, .int a2] : List Value).toArray s 0 0 (gF g)) (F0 m 67 ls [.int t1, .int t0]) := by
        intro S H locs ls x0 x2 x4 x5 t0 t1 hr_x0 hk_x0 h I hl
        unfold BX8_from_67 at h
        refine r_ior F dX8_from_67 h (fun z5 h => ?_)
        refine lv_istore_n (lv' := [(3, .int z5), (0, .ref (gz g + x0)), (2, .int x2), (4, .int x4), (5, .int x5)]) F.1 F.2.1 dX8_from_68 rfl hl (by decide) rfl (fun ls hl => ?_)
        refine lv_iload_n F.1 F.2.1 dX8_from_69 rfl (lv_at hl 0 rfl) ?_
        refine lv_aload_n F.1 F.2.1 dX8_from_70 rfl (lv_at hl 1 rfl) ?_
        refine lv_iload F.1 F.2.1 dX8_from_71 (lv_at hl 4 rfl) ?_
        refine lv_iconst (v := 2) F.1 F.2.1 dX8_from_73 (by decide) ?_
        refine g_I I (run_V (As := [.int x5, .int (2 : Int32)]) (rest := [.int z5]) F I hr_x0 hk_x0 (by decide) kX8_87 (ctX8_of hr_x0 hk_x0 h) ⟨rfl, rfl⟩ ⟨Nat.le_of_ble_eq_true rfl, Nat.le_of_ble_eq_true rfl⟩ rfl hl.1 rfl (Nat.le_of_ble_eq_true rfl) ⟨Nat.le_of_ble_eq_true rfl, Nat.le_of_ble_eq_true rfl⟩ dX8_from_74) (fun z6 S H locs I h => ?_)
        refine r_if_ge (tgt := 84) F dX8_from_77 (by decide) h (fun h => ?_) (fun h => ?_)
        · refine lv_iconst (v := 1) F.1 F.2.1 dX8_from_84 (by decide) ?_
          refine lv_aload_n F.1 F.2.1 dX8_from_85 rfl (lv_at hl 1 rfl) ?_
          refine lv_iload F.1 F.2.1 dX8_from_86 (lv_at hl 4 rfl) ?_
          refine lv_iconst (v := 2) F.1 F.2.1 dX8_from_88 (by decide) ?_
          refine g_I I (run_V (As := [.int x5, .int (2 : Int32)]) (rest := [.int (1 : Int32), .int z5]) F I hr_x0 hk_x0 (by decide) kX8_87 (ctX8_of hr_x0 hk_x0 h) ⟨rfl, rfl⟩ ⟨Nat.le_of_ble_eq_true rfl, Nat.le_of_ble_eq_true rfl⟩ rfl hl.1 rfl (Nat.le_of_ble_eq_true rfl) ⟨Nat.le_of_ble_eq_true rfl, Nat.le_of_ble_eq_true rfl⟩ dX8_from_89) (fun z7 S H locs I h => ?_)
          refine r_ishl F dX8_from_92 h (fun z8 h => ?_)
          exact hj_93 S _ _ _ x0 x2 x4 x5 z5 z8 hr_x0 hk_x0 h I (lv_sub hl [1, 2, 3, 4] rfl)
        · refine lv_iconst (v := 0) F.1 F.2.1 dX8_from_80 (by decide) ?_
          refine lv_goto (tgt := 93) F.1 F.2.1 dX8_from_81 (by decide) ?_
          exact hj_93 S _ _ _ x0 x2 x4 x5 z5 (0 : Int32) hr_x0 hk_x0 h I (lv_sub hl [1, 2, 3, 4] rfl)
      intro S H locs ls x0 x2 x3 x4 x5 hr_x0 hk_x0 h I hl
      rw [LX8_from_28] at h
      refine lv_iload F.1 F.2.1 dX8_from_28 (lv_at hl 4 rfl) ?_
      refine r_if_lt (tgt := 131) F dX8_from_30 (by decide) h (fun h => ?_) (fun h => ?_)
      · refine lv_iload F.1 F.2.1 dX8_from_131 (lv_at hl 3 rfl) ?_
        refine g_I I (run_S (As := [.int x4]) (rest := []) F I kX8_170 (ctX8_told0 h) ⟨rfl, rfl⟩ ⟨Nat.le_of_ble_eq_true rfl, Nat.le_of_ble_eq_true rfl⟩ rfl hl.1 rfl (Nat.le_of_ble_eq_true rfl) ⟨Nat.le_of_ble_eq_true rfl, Nat.le_of_ble_eq_true rfl⟩ dX8_from_133) (fun z9 S H locs I h => ?_)
        exact r_ireturn F I ⟨hr.1, hr.2.1, trivial⟩ h dX8_from_136
      · refine lv_iload_n F.1 F.2.1 dX8_from_33 rfl (lv_at hl 2 rfl) ?_
        refine lv_iload F.1 F.2.1 dX8_from_34 (lv_at hl 4 rfl) ?_
        refine r_ishr F dX8_from_36 h (fun z10 h => ?_)
        refine lv_iconst (v := 1) F.1 F.2.1 dX8_from_37 (by decide) ?_
        refine r_iand F dX8_from_38 h (fun z11 h => ?_)
        refine lv_iconst (v := 1) F.1 F.2.1 dX8_from_39 (by decide) ?_
        refine r_icmp_ne (tgt := 125) F dX8_from_40 (by decide) h (fun h => ?_) (fun h => ?_)
        · exact hj_125 S _ _ _ x0 x2 x3 x4 x5 hr_x0 hk_x0 h I (lv_sub hl [0, 1, 2, 3, 4] rfl)
        · refine lv_iload_n F.1 F.2.1 dX8_from_43 rfl (lv_at hl 2 rfl) ?_
          refine lv_aload_n F.1 F.2.1 dX8_from_44 rfl (lv_at hl 0 rfl) ?_
          refine lv_iload F.1 F.2.1 dX8_from_45 (lv_at hl 4 rfl) ?_
          refine lv_iconst (v := 1) F.1 F.2.1 dX8_from_47 (by decide) ?_
          refine g_I I (run_V (As := [.int x5, .int (1 : Int32)]) (rest := [.int x3]) F I hr_x0 hk_x0 (by decide) kX8_87 (ctX8_of hr_x0 hk_x0 h) ⟨rfl, rfl⟩ ⟨Nat.le_of_ble_eq_true rfl, Nat.le_of_ble_eq_true rfl⟩ rfl hl.1 rfl (Nat.le_of_ble_eq_true rfl) ⟨Nat.le_of_ble_eq_true rfl, Nat.le_of_ble_eq_true rfl⟩ dX8_from_48) (fun z12 S H locs I h => ?_)
          refine r_if_ge (tgt := 58) F dX8_from_51 (by decide) h (fun h => ?_) (fun h => ?_)
          · refine lv_iconst (v := 1) F.1 F.2.1 dX8_from_58 (by decide) ?_
            refine lv_aload_n F.1 F.2.1 dX8_from_59 rfl (lv_at hl 0 rfl) ?_
            refine lv_iload F.1 F.2.1 dX8_from_60 (lv_at hl 4 rfl) ?_
            refine lv_iconst (v := 1) F.1 F.2.1 dX8_from_62 (by decide) ?_
            refine g_I I (run_V (As := [.int x5, .int (1 : Int32)]) (rest := [.int (1 : Int32), .int x3]) F I hr_x0 hk_x0 (by decide) kX8_87 (ctX8_of hr_x0 hk_x0 h) ⟨rfl, rfl⟩ ⟨Nat.le_of_ble_eq_true rfl, Nat.le_of_ble_eq_true rfl⟩ rfl hl.1 rfl (Nat.le_of_ble_eq_true rfl) ⟨Nat.le_of_ble_eq_true rfl, Nat.le_of_ble_eq_true rfl⟩ dX8_from_63) (fun z13 S H locs I h => ?_)
            refine r_ishl F dX8_from_66 h (fun z14 h => ?_)
            exact hj_67 S _ _ _ x0 x2 x4 x5 x3 z14 hr_x0 hk_x0 h I (lv_sub hl [0, 1, 3, 4] rfl)
          · refine lv_iconst (v := 0) F.1 F.2.1 dX8_from_54 (by decide) ?_
            refine lv_goto (tgt := 67) F.1 F.2.1 dX8_from_55 (by decide) ?_
            exact hj_67 S _ _ _ x0 x2 x4 x5 x3 (0 : Int32) hr_x0 hk_x0 h I (lv_sub hl [0, 1, 3, 4] rfl)
  have hj_15 : ∀ (S : HC) (H : Heap) (locs : List Loc) (ls : Array Slot), BX8_from_15 ln post S  → Inv g N ln S s H locs → lv_has ls 6 [] → W p l e rmX8_from s m ([.ref (gz g + a0), .int a1, .int a2] : List Value).toArray below meth c H locs 0 0 (MQ below (QI g N ln post) ([.ref (gz g + a0), .int a1, .int a2] : List Value).toArray s 0 0 (gF g)) (F0 m 15 ls []) := by
    intro S H locs ls h I hl
    unfold BX8_from_15 at h
    refine lv_ldc F.1 F.2.1 F.2.2.2.1 (F.2.2.2.2 _ tw_1064) dX8_from_15 ?_
    exact r_ireturn F I ⟨hr.1, hr.2.1, trivial⟩ h dX8_from_17
  refine lv_aload_n F.1 F.2.1 dX8_from_0 rfl (lv_at hl 0 rfl) ?_
  refine lv_iload_n F.1 F.2.1 dX8_from_1 rfl (lv_at hl 1 rfl) ?_
  refine g_I I (run_V (As := [.int a1]) (rest := []) F I hr_a0 hk_a0 (by decide) kX8_83 (ctX8_isOne hr_a0 hk_a0 h) ⟨rfl, rfl⟩ ⟨Nat.le_of_ble_eq_true rfl, Nat.le_of_ble_eq_true rfl⟩ rfl hl.1 rfl (Nat.le_of_ble_eq_true rfl) ⟨Nat.le_of_ble_eq_true rfl, Nat.le_of_ble_eq_true rfl⟩ dX8_from_2) (fun z15 S H locs I h => ?_)
  refine r_if_eq (tgt := 15) F dX8_from_5 (by decide) h (fun h => ?_) (fun h => ?_)
  · exact hj_15 S _ _ _   h I (lv_sub hl [] rfl)
  · refine lv_iload_n F.1 F.2.1 dX8_from_8 rfl (lv_at hl 2 rfl) ?_
    refine g_I I (run_S (As := [.int a2]) (rest := []) F I kX8_95 (ctX8_isCharge h) ⟨rfl, rfl⟩ ⟨Nat.le_of_ble_eq_true rfl, Nat.le_of_ble_eq_true rfl⟩ rfl hl.1 rfl (Nat.le_of_ble_eq_true rfl) ⟨Nat.le_of_ble_eq_true rfl, Nat.le_of_ble_eq_true rfl⟩ dX8_from_9) (fun z16 S H locs I h => ?_)
    refine r_if_ne (tgt := 18) F dX8_from_12 (by decide) h (fun h => ?_) (fun h => ?_)
    · refine lv_iconst (v := 1) F.1 F.2.1 dX8_from_18 (by decide) ?_
      refine lv_iload_n F.1 F.2.1 dX8_from_19 rfl (lv_at hl 1 rfl) ?_
      refine r_ishl F dX8_from_20 h (fun z17 h => ?_)
      refine lv_istore_n (lv' := [(3, .int z17), (0, .ref (gz g + a0)), (1, .int a1), (2, .int a2)]) F.1 F.2.1 dX8_from_21 rfl hl (by decide) rfl (fun ls hl => ?_)
      refine lv_iconst (v := -1) F.1 F.2.1 dX8_from_22 (by decide) ?_
      refine lv_istore (lv' := [(4, .int (-1 : Int32)), (3, .int z17), (0, .ref (gz g + a0)), (1, .int a1), (2, .int a2)]) F.1 F.2.1 dX8_from_23 hl (by decide) rfl (fun ls hl => ?_)
      refine lv_iload_n F.1 F.2.1 dX8_from_25 rfl (lv_at hl 3 rfl) ?_
      refine lv_istore (lv' := [(5, .int a1), (4, .int (-1 : Int32)), (3, .int z17), (0, .ref (gz g + a0)), (1, .int a1), (2, .int a2)]) F.1 F.2.1 dX8_from_26 hl (by decide) rfl (fun ls hl => ?_)
      obtain ⟨n28, h⟩ := h
      exact hl_28 n28 S _ _ _ a0 a2 z17 (-1 : Int32) a1 hr_a0 hk_a0 h I (lv_sub hl [3, 5, 2, 1, 0] rfl)
    · exact hj_15 S _ _ _   h I (lv_sub hl [] rfl)
theorem bdX8_match_0 : ∀ q ∈ ([(0, .aload_n 0, 1), (1, .iload_n 1, 1), (2, .invokevirtual 83, 3), (5, .ifCond .eq 19, 3), (8, .iload_n 2, 1), (9, .invokestatic 95, 3), (12, .ifCond .eq 12, 3), (15, .iload_n 3, 1), (16, .iconst 0, 1), (17, .iconst 1, 1), (18, .invokestatic 79, 3), (21, .ifCond .ne 6, 3), (24, .ldc 98, 2), (26, .ireturn, 1), (27, .aload_n 0, 1), (28, .iload_n 2, 1), (29, .invokevirtual 130, 3), (32, .iconst (-1), 1), (33, .istore 4, 2), (35, .iconst (-1), 1), (36, .istore 5, 2), (38, .iconst 0, 1), (39, .istore 6, 2), (41, .iload 6, 2), (43, .aload_n 0, 1), (44, .getfield 9, 3), (47, .iconst 1, 1), (48, .iaload, 1), (49, .if_icmp .ge 87, 3), (52, .aload_n 0, 1), (53, .iload 6, 2), (55, .iconst 3, 1), (56, .invokevirtual 87, 3), (59, .aload_n 0, 1), (60, .iload_n 1, 1), (61, .iconst 3, 1), (62, .invokevirtual 87, 3), (65, .if_icmp .eq 65, 3), (68, .aload_n 0, 1), (69, .iload_n 1, 1)] : List (Nat × Jvm.ClassFile.Instr × Nat)), decode cX8_match q.1 = .ok q.2 := chk_ok _ 0 _ rfl (by decide +kernel)
theorem dX8_match_0 : decode cX8_match 0 = .ok (.aload_n 0, 1) := bdX8_match_0 (0, .aload_n 0, 1) (List.mem_of_getElem? (i := 0) rfl)
theorem dX8_match_1 : decode cX8_match 1 = .ok (.iload_n 1, 1) := bdX8_match_0 (1, .iload_n 1, 1) (List.mem_of_getElem? (i := 1) rfl)
theorem dX8_match_2 : decode cX8_match 2 = .ok (.invokevirtual 83, 3) := bdX8_match_0 (2, .invokevirtual 83, 3) (List.mem_of_getElem? (i := 2) rfl)
theorem dX8_match_5 : decode cX8_match 5 = .ok (.ifCond .eq 19, 3) := bdX8_match_0 (5, .ifCond .eq 19, 3) (List.mem_of_getElem? (i := 3) rfl)
theorem dX8_match_8 : decode cX8_match 8 = .ok (.iload_n 2, 1) := bdX8_match_0 (8, .iload_n 2, 1) (List.mem_of_getElem? (i := 4) rfl)
theorem dX8_match_9 : decode cX8_match 9 = .ok (.invokestatic 95, 3) := bdX8_match_0 (9, .invokestatic 95, 3) (List.mem_of_getElem? (i := 5) rfl)
theorem dX8_match_12 : decode cX8_match 12 = .ok (.ifCond .eq 12, 3) := bdX8_match_0 (12, .ifCond .eq 12, 3) (List.mem_of_getElem? (i := 6) rfl)
theorem dX8_match_15 : decode cX8_match 15 = .ok (.iload_n 3, 1) := bdX8_match_0 (15, .iload_n 3, 1) (List.mem_of_getElem? (i := 7) rfl)
theorem dX8_match_16 : decode cX8_match 16 = .ok (.iconst 0, 1) := bdX8_match_0 (16, .iconst 0, 1) (List.mem_of_getElem? (i := 8) rfl)
theorem dX8_match_17 : decode cX8_match 17 = .ok (.iconst 1, 1) := bdX8_match_0 (17, .iconst 1, 1) (List.mem_of_getElem? (i := 9) rfl)
theorem dX8_match_18 : decode cX8_match 18 = .ok (.invokestatic 79, 3) := bdX8_match_0 (18, .invokestatic 79, 3) (List.mem_of_getElem? (i := 10) rfl)
theorem dX8_match_21 : decode cX8_match 21 = .ok (.ifCond .ne 6, 3) := bdX8_match_0 (21, .ifCond .ne 6, 3) (List.mem_of_getElem? (i := 11) rfl)
theorem dX8_match_24 : decode cX8_match 24 = .ok (.ldc 98, 2) := bdX8_match_0 (24, .ldc 98, 2) (List.mem_of_getElem? (i := 12) rfl)
theorem dX8_match_26 : decode cX8_match 26 = .ok (.ireturn, 1) := bdX8_match_0 (26, .ireturn, 1) (List.mem_of_getElem? (i := 13) rfl)
theorem dX8_match_27 : decode cX8_match 27 = .ok (.aload_n 0, 1) := bdX8_match_0 (27, .aload_n 0, 1) (List.mem_of_getElem? (i := 14) rfl)
theorem dX8_match_28 : decode cX8_match 28 = .ok (.iload_n 2, 1) := bdX8_match_0 (28, .iload_n 2, 1) (List.mem_of_getElem? (i := 15) rfl)
theorem dX8_match_29 : decode cX8_match 29 = .ok (.invokevirtual 130, 3) := bdX8_match_0 (29, .invokevirtual 130, 3) (List.mem_of_getElem? (i := 16) rfl)
theorem dX8_match_32 : decode cX8_match 32 = .ok (.iconst (-1), 1) := bdX8_match_0 (32, .iconst (-1), 1) (List.mem_of_getElem? (i := 17) rfl)
theorem dX8_match_33 : decode cX8_match 33 = .ok (.istore 4, 2) := bdX8_match_0 (33, .istore 4, 2) (List.mem_of_getElem? (i := 18) rfl)
theorem dX8_match_35 : decode cX8_match 35 = .ok (.iconst (-1), 1) := bdX8_match_0 (35, .iconst (-1), 1) (List.mem_of_getElem? (i := 19) rfl)
theorem dX8_match_36 : decode cX8_match 36 = .ok (.istore 5, 2) := bdX8_match_0 (36, .istore 5, 2) (List.mem_of_getElem? (i := 20) rfl)
theorem dX8_match_38 : decode cX8_match 38 = .ok (.iconst 0, 1) := bdX8_match_0 (38, .iconst 0, 1) (List.mem_of_getElem? (i := 21) rfl)
theorem dX8_match_39 : decode cX8_match 39 = .ok (.istore 6, 2) := bdX8_match_0 (39, .istore 6, 2) (List.mem_of_getElem? (i := 22) rfl)
theorem dX8_match_41 : decode cX8_match 41 = .ok (.iload 6, 2) := bdX8_match_0 (41, .iload 6, 2) (List.mem_of_getElem? (i := 23) rfl)
theorem dX8_match_43 : decode cX8_match 43 = .ok (.aload_n 0, 1) := bdX8_match_0 (43, .aload_n 0, 1) (List.mem_of_getElem? (i := 24) rfl)
theorem dX8_match_44 : decode cX8_match 44 = .ok (.getfield 9, 3) := bdX8_match_0 (44, .getfield 9, 3) (List.mem_of_getElem? (i := 25) rfl)
theorem dX8_match_47 : decode cX8_match 47 = .ok (.iconst 1, 1) := bdX8_match_0 (47, .iconst 1, 1) (List.mem_of_getElem? (i := 26) rfl)
theorem dX8_match_48 : decode cX8_match 48 = .ok (.iaload, 1) := bdX8_match_0 (48, .iaload, 1) (List.mem_of_getElem? (i := 27) rfl)
theorem dX8_match_49 : decode cX8_match 49 = .ok (.if_icmp .ge 87, 3) := bdX8_match_0 (49, .if_icmp .ge 87, 3) (List.mem_of_getElem? (i := 28) rfl)
theorem dX8_match_52 : decode cX8_match 52 = .ok (.aload_n 0, 1) := bdX8_match_0 (52, .aload_n 0, 1) (List.mem_of_getElem? (i := 29) rfl)
theorem dX8_match_53 : decode cX8_match 53 = .ok (.iload 6, 2) := bdX8_match_0 (53, .iload 6, 2) (List.mem_of_getElem? (i := 30) rfl)
theorem dX8_match_55 : decode cX8_match 55 = .ok (.iconst 3, 1) := bdX8_match_0 (55, .iconst 3, 1) (List.mem_of_getElem? (i := 31) rfl)
theorem dX8_match_56 : decode cX8_match 56 = .ok (.invokevirtual 87, 3) := bdX8_match_0 (56, .invokevirtual 87, 3) (List.mem_of_getElem? (i := 32) rfl)
theorem dX8_match_59 : decode cX8_match 59 = .ok (.aload_n 0, 1) := bdX8_match_0 (59, .aload_n 0, 1) (List.mem_of_getElem? (i := 33) rfl)
theorem dX8_match_60 : decode cX8_match 60 = .ok (.iload_n 1, 1) := bdX8_match_0 (60, .iload_n 1, 1) (List.mem_of_getElem? (i := 34) rfl)
theorem dX8_match_61 : decode cX8_match 61 = .ok (.iconst 3, 1) := bdX8_match_0 (61, .iconst 3, 1) (List.mem_of_getElem? (i := 35) rfl)
theorem dX8_match_62 : decode cX8_match 62 = .ok (.invokevirtual 87, 3) := bdX8_match_0 (62, .invokevirtual 87, 3) (List.mem_of_getElem? (i := 36) rfl)
theorem dX8_match_65 : decode cX8_match 65 = .ok (.if_icmp .eq 65, 3) := bdX8_match_0 (65, .if_icmp .eq 65, 3) (List.mem_of_getElem? (i := 37) rfl)
theorem dX8_match_68 : decode cX8_match 68 = .ok (.aload_n 0, 1) := bdX8_match_0 (68, .aload_n 0, 1) (List.mem_of_getElem? (i := 38) rfl)
theorem dX8_match_69 : decode cX8_match 69 = .ok (.iload_n 1, 1) := bdX8_match_0 (69, .iload_n 1, 1) (List.mem_of_getElem? (i := 39) rfl)
theorem bdX8_match_70 : ∀ q ∈ ([(70, .iconst 3, 1), (71, .invokevirtual 87, 3), (74, .ifCond .ne 14, 3), (77, .aload_n 0, 1), (78, .iload_n 1, 1), (79, .iload 6, 2), (81, .iload_n 2, 1), (82, .invokevirtual 124, 3), (85, .goto 11, 3), (88, .aload_n 0, 1), (89, .iload 6, 2), (91, .iload_n 1, 1), (92, .iload_n 2, 1), (93, .invokevirtual 124, 3), (96, .istore 7, 2), (98, .iload 7, 2), (100, .iload 5, 2), (102, .if_icmp .le 8, 3), (105, .iload 6, 2), (107, .goto 5, 3), (110, .iload 4, 2), (112, .istore 4, 2), (114, .iload 7, 2), (116, .iload 5, 2), (118, .if_icmp .le 8, 3), (121, .iload 7, 2), (123, .goto 5, 3), (126, .iload 5, 2), (128, .istore 5, 2), (130, .iinc 6 1, 3), (133, .goto (-92), 3), (136, .iload 4, 2), (138, .ifCond .ge 8, 3), (141, .ldc 78, 2), (143, .goto 14, 3), (146, .iload_n 3, 1), (147, .ifCond .ne 8, 3), (150, .iload 4, 2), (152, .goto 5, 3), (155, .iload 5, 2)] : List (Nat × Jvm.ClassFile.Instr × Nat)), decode cX8_match q.1 = .ok q.2 := chk_ok _ 70 _ rfl (by decide +kernel)
theorem dX8_match_70 : decode cX8_match 70 = .ok (.iconst 3, 1) := bdX8_match_70 (70, .iconst 3, 1) (List.mem_of_getElem? (i := 0) rfl)
theorem dX8_match_71 : decode cX8_match 71 = .ok (.invokevirtual 87, 3) := bdX8_match_70 (71, .invokevirtual 87, 3) (List.mem_of_getElem? (i := 1) rfl)
theorem dX8_match_74 : decode cX8_match 74 = .ok (.ifCond .ne 14, 3) := bdX8_match_70 (74, .ifCond .ne 14, 3) (List.mem_of_getElem? (i := 2) rfl)
theorem dX8_match_77 : decode cX8_match 77 = .ok (.aload_n 0, 1) := bdX8_match_70 (77, .aload_n 0, 1) (List.mem_of_getElem? (i := 3) rfl)
theorem dX8_match_78 : decode cX8_match 78 = .ok (.iload_n 1, 1) := bdX8_match_70 (78, .iload_n 1, 1) (List.mem_of_getElem? (i := 4) rfl)
theorem dX8_match_79 : decode cX8_match 79 = .ok (.iload 6, 2) := bdX8_match_70 (79, .iload 6, 2) (List.mem_of_getElem? (i := 5) rfl)
theorem dX8_match_81 : decode cX8_match 81 = .ok (.iload_n 2, 1) := bdX8_match_70 (81, .iload_n 2, 1) (List.mem_of_getElem? (i := 6) rfl)
theorem dX8_match_82 : decode cX8_match 82 = .ok (.invokevirtual 124, 3) := bdX8_match_70 (82, .invokevirtual 124, 3) (List.mem_of_getElem? (i := 7) rfl)
theorem dX8_match_85 : decode cX8_match 85 = .ok (.goto 11, 3) := bdX8_match_70 (85, .goto 11, 3) (List.mem_of_getElem? (i := 8) rfl)
theorem dX8_match_88 : decode cX8_match 88 = .ok (.aload_n 0, 1) := bdX8_match_70 (88, .aload_n 0, 1) (List.mem_of_getElem? (i := 9) rfl)
theorem dX8_match_89 : decode cX8_match 89 = .ok (.iload 6, 2) := bdX8_match_70 (89, .iload 6, 2) (List.mem_of_getElem? (i := 10) rfl)
theorem dX8_match_91 : decode cX8_match 91 = .ok (.iload_n 1, 1) := bdX8_match_70 (91, .iload_n 1, 1) (List.mem_of_getElem? (i := 11) rfl)
theorem dX8_match_92 : decode cX8_match 92 = .ok (.iload_n 2, 1) := bdX8_match_70 (92, .iload_n 2, 1) (List.mem_of_getElem? (i := 12) rfl)
theorem dX8_match_93 : decode cX8_match 93 = .ok (.invokevirtual 124, 3) := bdX8_match_70 (93, .invokevirtual 124, 3) (List.mem_of_getElem? (i := 13) rfl)
theorem dX8_match_96 : decode cX8_match 96 = .ok (.istore 7, 2) := bdX8_match_70 (96, .istore 7, 2) (List.mem_of_getElem? (i := 14) rfl)
theorem dX8_match_98 : decode cX8_match 98 = .ok (.iload 7, 2) := bdX8_match_70 (98, .iload 7, 2) (List.mem_of_getElem? (i := 15) rfl)
theorem dX8_match_100 : decode cX8_match 100 = .ok (.iload 5, 2) := bdX8_match_70 (100, .iload 5, 2) (List.mem_of_getElem? (i := 16) rfl)
theorem dX8_match_102 : decode cX8_match 102 = .ok (.if_icmp .le 8, 3) := bdX8_match_70 (102, .if_icmp .le 8, 3) (List.mem_of_getElem? (i := 17) rfl)
theorem dX8_match_105 : decode cX8_match 105 = .ok (.iload 6, 2) := bdX8_match_70 (105, .iload 6, 2) (List.mem_of_getElem? (i := 18) rfl)
theorem dX8_match_107 : decode cX8_match 107 = .ok (.goto 5, 3) := bdX8_match_70 (107, .goto 5, 3) (List.mem_of_getElem? (i := 19) rfl)
theorem dX8_match_110 : decode cX8_match 110 = .ok (.iload 4, 2) := bdX8_match_70 (110, .iload 4, 2) (List.mem_of_getElem? (i := 20) rfl)
theorem dX8_match_112 : decode cX8_match 112 = .ok (.istore 4, 2) := bdX8_match_70 (112, .istore 4, 2) (List.mem_of_getElem? (i := 21) rfl)
theorem dX8_match_114 : decode cX8_match 114 = .ok (.iload 7, 2) := bdX8_match_70 (114, .iload 7, 2) (List.mem_of_getElem? (i := 22) rfl)
theorem dX8_match_116 : decode cX8_match 116 = .ok (.iload 5, 2) := bdX8_match_70 (116, .iload 5, 2) (List.mem_of_getElem? (i := 23) rfl)
theorem dX8_match_118 : decode cX8_match 118 = .ok (.if_icmp .le 8, 3) := bdX8_match_70 (118, .if_icmp .le 8, 3) (List.mem_of_getElem? (i := 24) rfl)
theorem dX8_match_121 : decode cX8_match 121 = .ok (.iload 7, 2) := bdX8_match_70 (121, .iload 7, 2) (List.mem_of_getElem? (i := 25) rfl)
theorem dX8_match_123 : decode cX8_match 123 = .ok (.goto 5, 3) := bdX8_match_70 (123, .goto 5, 3) (List.mem_of_getElem? (i := 26) rfl)
theorem dX8_match_126 : decode cX8_match 126 = .ok (.iload 5, 2) := bdX8_match_70 (126, .iload 5, 2) (List.mem_of_getElem? (i := 27) rfl)
theorem dX8_match_128 : decode cX8_match 128 = .ok (.istore 5, 2) := bdX8_match_70 (128, .istore 5, 2) (List.mem_of_getElem? (i := 28) rfl)
theorem dX8_match_130 : decode cX8_match 130 = .ok (.iinc 6 1, 3) := bdX8_match_70 (130, .iinc 6 1, 3) (List.mem_of_getElem? (i := 29) rfl)
theorem dX8_match_133 : decode cX8_match 133 = .ok (.goto (-92), 3) := bdX8_match_70 (133, .goto (-92), 3) (List.mem_of_getElem? (i := 30) rfl)
theorem dX8_match_136 : decode cX8_match 136 = .ok (.iload 4, 2) := bdX8_match_70 (136, .iload 4, 2) (List.mem_of_getElem? (i := 31) rfl)
theorem dX8_match_138 : decode cX8_match 138 = .ok (.ifCond .ge 8, 3) := bdX8_match_70 (138, .ifCond .ge 8, 3) (List.mem_of_getElem? (i := 32) rfl)
theorem dX8_match_141 : decode cX8_match 141 = .ok (.ldc 78, 2) := bdX8_match_70 (141, .ldc 78, 2) (List.mem_of_getElem? (i := 33) rfl)
theorem dX8_match_143 : decode cX8_match 143 = .ok (.goto 14, 3) := bdX8_match_70 (143, .goto 14, 3) (List.mem_of_getElem? (i := 34) rfl)
theorem dX8_match_146 : decode cX8_match 146 = .ok (.iload_n 3, 1) := bdX8_match_70 (146, .iload_n 3, 1) (List.mem_of_getElem? (i := 35) rfl)
theorem dX8_match_147 : decode cX8_match 147 = .ok (.ifCond .ne 8, 3) := bdX8_match_70 (147, .ifCond .ne 8, 3) (List.mem_of_getElem? (i := 36) rfl)
theorem dX8_match_150 : decode cX8_match 150 = .ok (.iload 4, 2) := bdX8_match_70 (150, .iload 4, 2) (List.mem_of_getElem? (i := 37) rfl)
theorem dX8_match_152 : decode cX8_match 152 = .ok (.goto 5, 3) := bdX8_match_70 (152, .goto 5, 3) (List.mem_of_getElem? (i := 38) rfl)
theorem dX8_match_155 : decode cX8_match 155 = .ok (.iload 5, 2) := bdX8_match_70 (155, .iload 5, 2) (List.mem_of_getElem? (i := 39) rfl)
theorem bdX8_match_157 : ∀ q ∈ ([(157, .ireturn, 1)] : List (Nat × Jvm.ClassFile.Instr × Nat)), decode cX8_match q.1 = .ok q.2 := chk_ok _ 157 _ rfl (by decide +kernel)
theorem dX8_match_157 : decode cX8_match 157 = .ok (.ireturn, 1) := bdX8_match_157 (157, .ireturn, 1) (List.mem_of_getElem? (i := 0) rfl)
def BX8_match_130 (ln : Nat → Nat) (post : Int32 → HC → Prop) (K41 : HC → Nat → Int32 → Int32 → Int32 → Int32 → Int32 → Int32 → Prop) (S : HC) (x0 : Nat) (x1 : Int32) (x2 : Int32) (x3 : Int32) (x4 : Int32) (x5 : Int32) (x6 : Int32) : Prop := lt_ (x6 + (1 : Int32)) fun z1 => K41 S x0 x1 x2 x3 x4 x5 z1
def BX8_match_128 (ln : Nat → Nat) (post : Int32 → HC → Prop) (K41 : HC → Nat → Int32 → Int32 → Int32 → Int32 → Int32 → Int32 → Prop) (S : HC) (x0 : Nat) (x1 : Int32) (x2 : Int32) (x3 : Int32) (x4 : Int32) (x6 : Int32) (t0 : Int32) : Prop := BX8_match_130 ln post K41 S x0 x1 x2 x3 x4 t0 x6
def BX8_match_112 (ln : Nat → Nat) (post : Int32 → HC → Prop) (K41 : HC → Nat → Int32 → Int32 → Int32 → Int32 → Int32 → Int32 → Prop) (S : HC) (x0 : Nat) (x1 : Int32) (x2 : Int32) (x3 : Int32) (x5 : Int32) (x6 : Int32) (x7 : Int32) (t0 : Int32) : Prop := if x7 ≤ x5 then (BX8_match_128 ln post K41 S x0 x1 x2 x3 t0 x6 x5) else (BX8_match_128 ln post K41 S x0 x1 x2 x3 t0 x6 x7)
def BX8_match_96 (ln : Nat → Nat) (post : Int32 → HC → Prop) (K41 : HC → Nat → Int32 → Int32 → Int32 → Int32 → Int32 → Int32 → Prop) (S : HC) (x0 : Nat) (x1 : Int32) (x2 : Int32) (x3 : Int32) (x4 : Int32) (x5 : Int32) (x6 : Int32) (t0 : Int32) : Prop := if t0 ≤ x5 then (BX8_match_112 ln post K41 S x0 x1 x2 x3 x5 x6 t0 x4) else (BX8_match_112 ln post K41 S x0 x1 x2 x3 x5 x6 t0 x6)
def LX8_match_41 (ln : Nat → Nat) (post : Int32 → HC → Prop) : Nat → HC → Nat → Int32 → Int32 → Int32 → Int32 → Int32 → Int32 → Prop
  | 0 => fun _ _ _ _ _ _ _ _ => False
  | n41 + 1 => fun S x0 x1 x2 x3 x4 x5 x6 => dn_ (hR S x0 0) fun b2 => al_ (ln b2) (1 : Int32) (hI S b2) fun z3 => if z3 ≤ x6 then (if 0 ≤ x4 then (if x3 = 0 then (post x4 S) else (post x5 S)) else (post (-1000000005 : Int32) S)) else (wpX8_of ln S x0 x6 (3 : Int32) fun z4 S => wpX8_of ln S x0 x1 (3 : Int32) fun z5 S => if z4 = z5 then (BX8_match_130 ln post (LX8_match_41 ln post n41) S x0 x1 x2 x3 x4 x5 x6) else (wpX8_of ln S x0 x1 (3 : Int32) fun z6 S => if z6 = 0 then (wpX8_childOf ln S x0 x1 x6 x2 fun z8 S => BX8_match_96 ln post (LX8_match_41 ln post n41) S x0 x1 x2 x3 x4 x5 x6 z8) else (wpX8_childOf ln S x0 x6 x1 x2 fun z7 S => BX8_match_96 ln post (LX8_match_41 ln post n41) S x0 x1 x2 x3 x4 x5 x6 z7)))
def BX8_match_24 (ln : Nat → Nat) (post : Int32 → HC → Prop) (S : HC)  : Prop := post (-1000000001 : Int32) S
def wpX8_match (ln : Nat → Nat) (S : HC) (a0 : Nat) (a1 : Int32) (a2 : Int32) (a3 : Int32) (post : Int32 → HC → Prop) : Prop := wpX8_isOne ln S a0 a1 fun z9 S => if z9 = 0 then (BX8_match_24 ln post S) else (wpX8_isCharge ln S a2 fun z10 S => if z10 = 0 then (BX8_match_24 ln post S) else (wpX8_in ln S a3 (0 : Int32) (1 : Int32) fun z11 S => if z11 = 0 then (BX8_match_24 ln post S) else (wpX8_worksOf ln S a0 a2 fun S => ∃ n41, LX8_match_41 ln post n41 S a0 a1 a2 a3 (-1 : Int32) (-1 : Int32) (0 : Int32))))
abbrev rmX8_match : Room := { frames := 6, cells := 0, slots := 0, locals := 144 }
set_option maxHeartbeats 4000000 in
set_option maxRecDepth 100000 in
theorem ctX8_match {l : Launch} {g : GX} {N : Nat} {ln : Nat → Nat} {S : HC} {a0 : Nat} {a1 : Int32} {a2 : Int32} {a3 : Int32} {post : Int32 → HC → Prop} (hr_a0 : a0 < N) (hk_a0 : kd a0 = 8) (h : wpX8_match ln S a0 a1 a2 a3 post) : Met l yX8_match (Cond.code yX8_match prog_10_method_42_code 8 (Option.some Jvm.ClassFile.FieldType.int) :: gtbl) rmX8_match (va_Pc [.ref (gz g + a0), .int a1, .int a2, .int a3] (AtP g N ln S)) (QI g N ln post) 0 0 (gF g) := by
  refine m_of (by decide) (Nat.le_of_ble_eq_true rfl) ?_
  intro p e s m below meth c ls F hr I hl
  have hl : lv_has ls 8 [(0, .ref (gz g + a0)), (1, .int a1), (2, .int a2), (3, .int a3)] := hl
  unfold wpX8_match at h
  have hl_41 : ∀ n41 : Nat, ∀ (S : HC) (H : Heap) (locs : List Loc) (ls : Array Slot) (x0 : Nat) (x1 : Int32) (x2 : Int32) (x3 : Int32) (x4 : Int32) (x5 : Int32) (x6 : Int32), x0 < N → kd x0 = 8 → LX8_match_41 ln post n41 S x0 x1 x2 x3 x4 x5 x6 → Inv g N ln S s H locs → lv_has ls 8 [(0, .ref (gz g + x0)), (1, .int x1), (2, .int x2), (3, .int x3), (4, .int x4), (5, .int x5), (6, .int x6)] → W p l e rmX8_match s m ([.ref (gz g + a0), .int a1, .int a2, .int a3] : List Value).toArray below meth c H locs 0 0 (MQ below (QI g N ln post) ([.ref (gz g + a0), .int a1, .int a2, .int a3] : List Value).toArray s 0 0 (gF g)) (F0 m 41 ls []) := by
    intro n41
    induction n41 with
    | zero =>
      intro S H locs ls x0 x1 x2 x3 x4 x5 x6 hr_x0 hk_x0 h I hl
      exact h.elim
    | succ n41 ih =>
      have hk41 := ih
      have hj_130 : ∀ (S : HC) (H : Heap) (locs : List Loc) (ls : Array Slot) (x0 : Nat) (x1 : Int32) (x2 : Int32) (x3 : Int32) (x4 : Int32) (x5 : Int32) (x6 : Int32), x0 < N → kd x0 = 8 → BX8_match_130 ln post (LX8_match_41 ln post n41) S x0 x1 x2 x3 x4 x5 x6 → Inv g N ln S s H locs → lv_has ls 8 [(0, .ref (gz g + x0)), (1, .int x1), (2, .int x2), (3, .int x3), (4, .int x4), (5, .int x5), (6, .int x6)] → W p l e rmX8_match s m ([.ref (gz g + a0), .int a1, .int a2, .int a3] : List Value).toArray below meth c H locs 0 0 (MQ below (QI g N ln post) ([.ref (gz g + a0), .int a1, .int a2, .int a3] : List Value).toArray s 0 0 (gF g)) (F0 m 130 ls []) := by
        intro S H locs ls x0 x1 x2 x3 x4 x5 x6 hr_x0 hk_x0 h I hl
        unfold BX8_match_130 at h
        obtain ⟨z1, e_z1, h⟩ := lt_x h
        refine lv_iinc (v := z1) (lv' := [(6, .int z1), (0, .ref (gz g + x0)), (1, .int x1), (2, .int x2), (3, .int x3), (4, .int x4), (5, .int x5)]) F.1 F.2.1 dX8_match_130 hl (k := 6) rfl (by rw [e_z1]; rfl) (by decide) rfl (fun ls hl => ?_)
        refine lv_goto (tgt := 41) F.1 F.2.1 dX8_match_133 (by decide) ?_
        exact hk41 S _ _ _ x0 x1 x2 x3 x4 x5 z1 hr_x0 hk_x0 h I (lv_sub hl [1, 2, 3, 4, 5, 6, 0] rfl)
      have hj_128 : ∀ (S : HC) (H : Heap) (locs : List Loc) (ls : Array Slot) (x0 : Nat) (x1 : Int32) (x2 : Int32) (x3 : Int32) (x4 : Int32) (x6 : Int32) (t0 : Int32), x0 < N → kd x0 = 8 → BX8_match_128 ln post (LX8_match_41 ln post n41) S x0 x1 x2 x3 x4 x6 t0 → Inv g N ln S s H locs → lv_has ls 8 [(0, .ref (gz g + x0)), (1, .int x1), (2, .int x2), (3, .int x3), (4, .int x4), (6, .int x6)] → W p l e rmX8_match s m ([.ref (gz g + a0), .int a1, .int a2, .int a3] : List Value).toArray below meth c H locs 0 0 (MQ below (QI g N ln post) ([.ref (gz g + a0), .int a1, .int a2, .int a3] : List Value).toArray s 0 0 (gF g)) (F0 m 128 ls [.int t0]) := by
        intro S H locs ls x0 x1 x2 x3 x4 x6 t0 hr_x0 hk_x0 h I hl
        unfold BX8_match_128 at h
        refine lv_istore (lv' := [(5, .int t0), (0, .ref (gz g + x0)), (1, .int x1), (2, .int x2), (3, .int x3), (4, .int x4), (6, .int x6)]) F.1 F.2.1 dX8_match_128 hl (by decide) rfl (fun ls hl => ?_)
        exact hj_130 S _ _ _ x0 x1 x2 x3 x4 t0 x6 hr_x0 hk_x0 h I (lv_sub hl [1, 2, 3, 4, 5, 0, 6] rfl)
      have hj_112 : ∀ (S : HC) (H : Heap) (locs : List Loc) (ls : Array Slot) (x0 : Nat) (x1 : Int32) (x2 : Int32) (x3 : Int32) (x5 : Int32) (x6 : Int32) (x7 : Int32) (t0 : Int32), x0 < N → kd x0 = 8 → BX8_match_112 ln post (LX8_match_41 ln post n41) S x0 x1 x2 x3 x5 x6 x7 t0 → Inv g N ln S s H locs → lv_has ls 8 [(0, .ref (gz g + x0)), (1, .int x1), (2, .int x2), (3, .int x3), (5, .int x5), (6, .int x6), (7, .int x7)] → W p l e rmX8_match s m ([.ref (gz g + a0), .int a1, .int a2, .int a3] : List Value).toArray below meth c H locs 0 0 (MQ below (QI g N ln post) ([.ref (gz g + a0), .int a1, .int a2, .int a3] : List Value).toArray s 0 0 (gF g)) (F0 m 112 ls [.int t0]) := by
        intro S H locs ls x0 x1 x2 x3 x5 x6 x7 t0 hr_x0 hk_x0 h I hl
        unfold BX8_match_112 at h
        refine lv_istore (lv' := [(4, .int t0), (0, .ref (gz g + x0)), (1, .int x1), (2, .int x2), (3, .int x3), (5, .int x5), (6, .int x6), (7, .int x7)]) F.1 F.2.1 dX8_match_112 hl (by decide) rfl (fun ls hl => ?_)
        refine lv_iload F.1 F.2.1 dX8_match_114 (lv_at hl 7 rfl) ?_
        refine lv_iload F.1 F.2.1 dX8_match_116 (lv_at hl 5 rfl) ?_
        refine r_icmp_le (tgt := 126) F dX8_match_118 (by decide) h (fun h => ?_) (fun h => ?_)
        · refine lv_iload F.1 F.2.1 dX8_match_126 (lv_at hl 5 rfl) ?_
          exact hj_128 S _ _ _ x0 x1 x2 x3 t0 x6 x5 hr_x0 hk_x0 h I (lv_sub hl [1, 2, 3, 4, 0, 6] rfl)
        · refine lv_iload F.1 F.2.1 dX8_match_121 (lv_at hl 7 rfl) ?_
          refine lv_goto (tgt := 128) F.1 F.2.1 dX8_match_123 (by decide) ?_
          exact hj_128 S _ _ _ x0 x1 x2 x3 t0 x6 x7 hr_x0 hk_x0 h I (lv_sub hl [1, 2, 3, 4, 0, 6] rfl)
      have hj_96 : ∀ (S : HC) (H : Heap) (locs : List Loc) (ls : Array Slot) (x0 : Nat) (x1 : Int32) (x2 : Int32) (x3 : Int32) (x4 : Int32) (x5 : Int32) (x6 : Int32) (t0 : Int32), x0 < N → kd x0 = 8 → BX8_match_96 ln post (LX8_match_41 ln post n41) S x0 x1 x2 x3 x4 x5 x6 t0 → Inv g N ln S s H locs → lv_has ls 8 [(0, .ref (gz g + x0)), (1, .int x1), (2, .int x2), (3, .int x3), (4, .int x4), (5, .int x5), (6, .int x6)] → W p l e rmX8_match s m ([.ref (gz g + a0), .int a1, .int a2, .int a3] : List Value).toArray below meth c H locs 0 0 (MQ below (QI g N ln post) ([.ref (gz g + a0), .int a1, .int a2, .int a3] : List Value).toArray s 0 0 (gF g)) (F0 m 96 ls [.int t0]) := by
        intro S H locs ls x0 x1 x2 x3 x4 x5 x6 t0 hr_x0 hk_x0 h I hl
        unfold BX8_match_96 at h
        refine lv_istore (lv' := [(7, .int t0), (0, .ref (gz g + x0)), (1, .int x1), (2, .int x2), (3, .int x3), (4, .int x4), (5, .int x5), (6, .int x6)]) F.1 F.2.1 dX8_match_96 hl (by decide) rfl (fun ls hl => ?_)
        refine lv_iload F.1 F.2.1 dX8_match_98 (lv_at hl 0 rfl) ?_
        refine lv_iload F.1 F.2.1 dX8_match_100 (lv_at hl 6 rfl) ?_
        refine r_icmp_le (tgt := 110) F dX8_match_102 (by decide) h (fun h => ?_) (fun h => ?_)
        · refine lv_iload F.1 F.2.1 dX8_match_110 (lv_at hl 5 rfl) ?_
          exact hj_112 S _ _ _ x0 x1 x2 x3 x5 x6 t0 x4 hr_x0 hk_x0 h I (lv_sub hl [1, 2, 3, 4, 6, 7, 0] rfl)
        · refine lv_iload F.1 F.2.1 dX8_match_105 (lv_at hl 7 rfl) ?_
          refine lv_goto (tgt := 112) F.1 F.2.1 dX8_match_107 (by decide) ?_
          exact hj_112 S _ _ _ x0 x1 x2 x3 x5 x6 t0 x6 hr_x0 hk_x0 h I (lv_sub hl [1, 2, 3, 4, 6, 7, 0] rfl)
      intro S H locs ls x0 x1 x2 x3 x4 x5 x6 hr_x0 hk_x0 h I hl
      rw [LX8_match_41] at h
      refine lv_iload F.1 F.2.1 dX8_match_41 (lv_at hl 6 rfl) ?_
      refine lv_aload_n F.1 F.2.1 dX8_match_43 rfl (lv_at hl 0 rfl) ?_
      refine r_getN F I hr_x0 hk_x0 fX8_9 (f := 9) rfl (by decide) dX8_match_44 h (fun b2 hr_b2 hk_b2 h => ?_)
      refine lv_iconst (v := 1) F.1 F.2.1 dX8_match_47 (by decide) ?_
      refine r_ald F I hr_b2 hk_b2 dX8_match_48 h (fun z3 h => ?_)
      refine r_icmp_ge (tgt := 136) F dX8_match_49 (by decide) h (fun h => ?_) (fun h => ?_)
      · refine lv_iload F.1 F.2.1 dX8_match_136 (lv_at hl 4 rfl) ?_
        refine r_if_ge (tgt := 146) F dX8_match_138 (by decide) h (fun h => ?_) (fun h => ?_)
        · refine lv_iload_n F.1 F.2.1 dX8_match_146 rfl (lv_at hl 3 rfl) ?_
          refine r_if_ne (tgt := 155) F dX8_match_147 (by decide) h (fun h => ?_) (fun h => ?_)
          · refine lv_iload F.1 F.2.1 dX8_match_155 (lv_at hl 5 rfl) ?_
            exact r_ireturn F I ⟨hr.1, hr.2.1, trivial⟩ h dX8_match_157
          · refine lv_iload F.1 F.2.1 dX8_match_150 (lv_at hl 4 rfl) ?_
            refine lv_goto (tgt := 157) F.1 F.2.1 dX8_match_152 (by decide) ?_
            exact r_ireturn F I ⟨hr.1, hr.2.1, trivial⟩ h dX8_match_157
        · refine lv_ldc F.1 F.2.1 F.2.2.2.1 (F.2.2.2.2 _ tw_1208) dX8_match_141 ?_
          refine lv_goto (tgt := 157) F.1 F.2.1 dX8_match_143 (by decide) ?_
          exact r_ireturn F I ⟨hr.1, hr.2.1, trivial⟩ h dX8_match_157
      · refine lv_aload_n F.1 F.2.1 dX8_match_52 rfl (lv_at hl 0 rfl) ?_
        refine lv_iload F.1 F.2.1 dX8_match_53 (lv_at hl 6 rfl) ?_
        refine lv_iconst (v := 3) F.1 F.2.1 dX8_match_55 (by decide) ?_
        refine g_I I (run_V (As := [.int x6, .int (3 : Int32)]) (rest := []) F I hr_x0 hk_x0 (by decide) kX8_87 (ctX8_of hr_x0 hk_x0 h) ⟨rfl, rfl⟩ ⟨Nat.le_of_ble_eq_true rfl, Nat.le_of_ble_eq_true rfl⟩ rfl hl.1 rfl (Nat.le_of_ble_eq_true rfl) ⟨Nat.le_of_ble_eq_true rfl, Nat.le_of_ble_eq_true rfl⟩ dX8_match_56) (fun z4 S H locs I h => ?_)
        refine lv_aload_n F.1 F.2.1 dX8_match_59 rfl (lv_at hl 0 rfl) ?_
        refine lv_iload_n F.1 F.2.1 dX8_match_60 rfl (lv_at hl 1 rfl) ?_
        refine lv_iconst (v := 3) F.1 F.2.1 dX8_match_61 (by decide) ?_
        refine g_I I (run_V (As := [.int x1, .int (3 : Int32)]) (rest := [.int z4]) F I hr_x0 hk_x0 (by decide) kX8_87 (ctX8_of hr_x0 hk_x0 h) ⟨rfl, rfl⟩ ⟨Nat.le_of_ble_eq_true rfl, Nat.le_of_ble_eq_true rfl⟩ rfl hl.1 rfl (Nat.le_of_ble_eq_true rfl) ⟨Nat.le_of_ble_eq_true rfl, Nat.le_of_ble_eq_true rfl⟩ dX8_match_62) (fun z5 S H locs I h => ?_)
        refine r_icmp_eq (tgt := 130) F dX8_match_65 (by decide) h (fun h => ?_) (fun h => ?_)
        · exact hj_130 S _ _ _ x0 x1 x2 x3 x4 x5 x6 hr_x0 hk_x0 h I (lv_sub hl [0, 1, 2, 3, 4, 5, 6] rfl)
        · refine lv_aload_n F.1 F.2.1 dX8_match_68 rfl (lv_at hl 0 rfl) ?_
          refine lv_iload_n F.1 F.2.1 dX8_match_69 rfl (lv_at hl 1 rfl) ?_
          refine lv_iconst (v := 3) F.1 F.2.1 dX8_match_70 (by decide) ?_
          refine g_I I (run_V (As := [.int x1, .int (3 : Int32)]) (rest := []) F I hr_x0 hk_x0 (by decide) kX8_87 (ctX8_of hr_x0 hk_x0 h) ⟨rfl, rfl⟩ ⟨Nat.le_of_ble_eq_true rfl, Nat.le_of_ble_eq_true rfl⟩ rfl hl.1 rfl (Nat.le_of_ble_eq_true rfl) ⟨Nat.le_of_ble_eq_true rfl, Nat.le_of_ble_eq_true rfl⟩ dX8_match_71) (fun z6 S H locs I h => ?_)
          refine r_if_ne (tgt := 88) F dX8_match_74 (by decide) h (fun h => ?_) (fun h => ?_)
          · refine lv_aload_n F.1 F.2.1 dX8_match_88 rfl (lv_at hl 0 rfl) ?_
            refine lv_iload F.1 F.2.1 dX8_match_89 (lv_at hl 6 rfl) ?_
            refine lv_iload_n F.1 F.2.1 dX8_match_91 rfl (lv_at hl 1 rfl) ?_
            refine lv_iload_n F.1 F.2.1 dX8_match_92 rfl (lv_at hl 2 rfl) ?_
            refine g_I I (run_V (As := [.int x6, .int x1, .int x2]) (rest := []) F I hr_x0 hk_x0 (by decide) kX8_124 (ctX8_childOf hr_x0 hk_x0 h) ⟨rfl, rfl⟩ ⟨Nat.le_of_ble_eq_true rfl, Nat.le_of_ble_eq_true rfl⟩ rfl hl.1 rfl (Nat.le_of_ble_eq_true rfl) ⟨Nat.le_of_ble_eq_true rfl, Nat.le_of_ble_eq_true rfl⟩ dX8_match_93) (fun z7 S H locs I h => ?_)
            exact hj_96 S _ _ _ x0 x1 x2 x3 x4 x5 x6 z7 hr_x0 hk_x0 h I (lv_sub hl [0, 1, 2, 3, 4, 5, 6] rfl)
          · refine lv_aload_n F.1 F.2.1 dX8_match_77 rfl (lv_at hl 0 rfl) ?_
            refine lv_iload_n F.1 F.2.1 dX8_match_78 rfl (lv_at hl 1 rfl) ?_
            refine lv_iload F.1 F.2.1 dX8_match_79 (lv_at hl 6 rfl) ?_
            refine lv_iload_n F.1 F.2.1 dX8_match_81 rfl (lv_at hl 2 rfl) ?_
            refine g_I I (run_V (As := [.int x1, .int x6, .int x2]) (rest := []) F I hr_x0 hk_x0 (by decide) kX8_124 (ctX8_childOf hr_x0 hk_x0 h) ⟨rfl, rfl⟩ ⟨Nat.le_of_ble_eq_true rfl, Nat.le_of_ble_eq_true rfl⟩ rfl hl.1 rfl (Nat.le_of_ble_eq_true rfl) ⟨Nat.le_of_ble_eq_true rfl, Nat.le_of_ble_eq_true rfl⟩ dX8_match_82) (fun z8 S H locs I h => ?_)
            refine lv_goto (tgt := 96) F.1 F.2.1 dX8_match_85 (by decide) ?_
            exact hj_96 S _ _ _ x0 x1 x2 x3 x4 x5 x6 z8 hr_x0 hk_x0 h I (lv_sub hl [0, 1, 2, 3, 4, 5, 6] rfl)
  have hj_24 : ∀ (S : HC) (H : Heap) (locs : List Loc) (ls : Array Slot), BX8_match_24 ln post S  → Inv g N ln S s H locs → lv_has ls 8 [] → W p l e rmX8_match s m ([.ref (gz g + a0), .int a1, .int a2, .int a3] : List Value).toArray below meth c H locs 0 0 (MQ below (QI g N ln post) ([.ref (gz g + a0), .int a1, .int a2, .int a3] : List Value).toArray s 0 0 (gF g)) (F0 m 24 ls []) := by
    intro S H locs ls h I hl
    unfold BX8_match_24 at h
    refine lv_ldc F.1 F.2.1 F.2.2.2.1 (F.2.2.2.2 _ tw_1064) dX8_match_24 ?_
    exact r_ireturn F I ⟨hr.1, hr.2.1, trivial⟩ h dX8_match_26
  refine lv_aload_n F.1 F.2.1 dX8_match_0 rfl (lv_at hl 0 rfl) ?_
  refine lv_iload_n F.1 F.2.1 dX8_match_1 rfl (lv_at hl 1 rfl) ?_
  refine g_I I (run_V (As := [.int a1]) (rest := []) F I hr_a0 hk_a0 (by decide) kX8_83 (ctX8_isOne hr_a0 hk_a0 h) ⟨rfl, rfl⟩ ⟨Nat.le_of_ble_eq_true rfl, Nat.le_of_ble_eq_true rfl⟩ rfl hl.1 rfl (Nat.le_of_ble_eq_true rfl) ⟨Nat.le_of_ble_eq_true rfl, Nat.le_of_ble_eq_true rfl⟩ dX8_match_2) (fun z9 S H locs I h => ?_)
  refine r_if_eq (tgt := 24) F dX8_match_5 (by decide) h (fun h => ?_) (fun h => ?_)
  · exact hj_24 S _ _ _   h I (lv_sub hl [] rfl)
  · refine lv_iload_n F.1 F.2.1 dX8_match_8 rfl (lv_at hl 2 rfl) ?_
    refine g_I I (run_S (As := [.int a2]) (rest := []) F I kX8_95 (ctX8_isCharge h) ⟨rfl, rfl⟩ ⟨Nat.le_of_ble_eq_true rfl, Nat.le_of_ble_eq_true rfl⟩ rfl hl.1 rfl (Nat.le_of_ble_eq_true rfl) ⟨Nat.le_of_ble_eq_true rfl, Nat.le_of_ble_eq_true rfl⟩ dX8_match_9) (fun z10 S H locs I h => ?_)
    refine r_if_eq (tgt := 24) F dX8_match_12 (by decide) h (fun h => ?_) (fun h => ?_)
    · exact hj_24 S _ _ _   h I (lv_sub hl [] rfl)
    · refine lv_iload_n F.1 F.2.1 dX8_match_15 rfl (lv_at hl 3 rfl) ?_
      refine lv_iconst (v := 0) F.1 F.2.1 dX8_match_16 (by decide) ?_
      refine lv_iconst (v := 1) F.1 F.2.1 dX8_match_17 (by decide) ?_
      refine g_I I (run_S (As := [.int a3, .int (0 : Int32), .int (1 : Int32)]) (rest := []) F I kX8_79 (ctX8_in h) ⟨rfl, rfl⟩ ⟨Nat.le_of_ble_eq_true rfl, Nat.le_of_ble_eq_true rfl⟩ rfl hl.1 rfl (Nat.le_of_ble_eq_true rfl) ⟨Nat.le_of_ble_eq_true rfl, Nat.le_of_ble_eq_true rfl⟩ dX8_match_18) (fun z11 S H locs I h => ?_)
      refine r_if_ne (tgt := 27) F dX8_match_21 (by decide) h (fun h => ?_) (fun h => ?_)
      · refine lv_aload_n F.1 F.2.1 dX8_match_27 rfl (lv_at hl 0 rfl) ?_
        refine lv_iload_n F.1 F.2.1 dX8_match_28 rfl (lv_at hl 2 rfl) ?_
        refine g_V I (run_V (As := [.int a2]) (rest := []) F I hr_a0 hk_a0 (by decide) kX8_130 (ctX8_worksOf hr_a0 hk_a0 h) ⟨rfl, rfl⟩ ⟨Nat.le_of_ble_eq_true rfl, Nat.le_of_ble_eq_true rfl⟩ rfl hl.1 rfl (Nat.le_of_ble_eq_true rfl) ⟨Nat.le_of_ble_eq_true rfl, Nat.le_of_ble_eq_true rfl⟩ dX8_match_29) (fun S H locs I h => ?_)
        refine lv_iconst (v := -1) F.1 F.2.1 dX8_match_32 (by decide) ?_
        refine lv_istore (lv' := [(4, .int (-1 : Int32)), (0, .ref (gz g + a0)), (1, .int a1), (2, .int a2), (3, .int a3)]) F.1 F.2.1 dX8_match_33 hl (by decide) rfl (fun ls hl => ?_)
        refine lv_iconst (v := -1) F.1 F.2.1 dX8_match_35 (by decide) ?_
        refine lv_istore (lv' := [(5, .int (-1 : Int32)), (4, .int (-1 : Int32)), (0, .ref (gz g + a0)), (1, .int a1), (2, .int a2), (3, .int a3)]) F.1 F.2.1 dX8_match_36 hl (by decide) rfl (fun ls hl => ?_)
        refine lv_iconst (v := 0) F.1 F.2.1 dX8_match_38 (by decide) ?_
        refine lv_istore (lv' := [(6, .int (0 : Int32)), (5, .int (-1 : Int32)), (4, .int (-1 : Int32)), (0, .ref (gz g + a0)), (1, .int a1), (2, .int a2), (3, .int a3)]) F.1 F.2.1 dX8_match_39 hl (by decide) rfl (fun ls hl => ?_)
        obtain ⟨n41, h⟩ := h
        exact hl_41 n41 S _ _ _ a0 a1 a2 a3 (-1 : Int32) (-1 : Int32) (0 : Int32) hr_a0 hk_a0 h I (lv_sub hl [3, 4, 5, 6, 2, 1, 0] rfl)
      · exact hj_24 S _ _ _   h I (lv_sub hl [] rfl)
theorem bdX8_repaint_0 : ∀ q ∈ ([(0, .iconst (-1), 1), (1, .istore_n 1, 1), (2, .aload_n 0, 1), (3, .invokevirtual 167, 3), (6, .istore_n 2, 1), (7, .iconst 0, 1), (8, .istore_n 3, 1), (9, .iload_n 3, 1), (10, .aload_n 0, 1), (11, .getfield 9, 3), (14, .iconst 1, 1), (15, .iaload, 1), (16, .if_icmp .ge 116, 3), (19, .aload_n 0, 1), (20, .iload_n 3, 1), (21, .iconst 4, 1), (22, .invokevirtual 87, 3), (25, .istore 4, 2), (27, .iconst 0, 1), (28, .istore 5, 2), (30, .iload 5, 2), (32, .bipush 8, 2), (34, .if_icmp .ge 77, 3), (37, .aload_n 0, 1), (38, .iload_n 3, 1), (39, .iconst 1, 1), (40, .invokevirtual 87, 3), (43, .ifCond .ge 68, 3), (46, .iload 5, 2), (48, .iload 4, 2), (50, .if_icmp .eq 55, 3), (53, .aload_n 0, 1), (54, .getfield 9, 3), (57, .iconst 5, 1), (58, .bipush 6, 2), (60, .iload_n 3, 1), (61, .imul, 1), (62, .iadd, 1), (63, .iconst 4, 1), (64, .iadd, 1)] : List (Nat × Jvm.ClassFile.Instr × Nat)), decode cX8_repaint q.1 = .ok q.2 := chk_ok _ 0 _ rfl (by decide +kernel)
theorem dX8_repaint_0 : decode cX8_repaint 0 = .ok (.iconst (-1), 1) := bdX8_repaint_0 (0, .iconst (-1), 1) (List.mem_of_getElem? (i := 0) rfl)
theorem dX8_repaint_1 : decode cX8_repaint 1 = .ok (.istore_n 1, 1) := bdX8_repaint_0 (1, .istore_n 1, 1) (List.mem_of_getElem? (i := 1) rfl)
theorem dX8_repaint_2 : decode cX8_repaint 2 = .ok (.aload_n 0, 1) := bdX8_repaint_0 (2, .aload_n 0, 1) (List.mem_of_getElem? (i := 2) rfl)
theorem dX8_repaint_3 : decode cX8_repaint 3 = .ok (.invokevirtual 167, 3) := bdX8_repaint_0 (3, .invokevirtual 167, 3) (List.mem_of_getElem? (i := 3) rfl)
theorem dX8_repaint_6 : decode cX8_repaint 6 = .ok (.istore_n 2, 1) := bdX8_repaint_0 (6, .istore_n 2, 1) (List.mem_of_getElem? (i := 4) rfl)
theorem dX8_repaint_7 : decode cX8_repaint 7 = .ok (.iconst 0, 1) := bdX8_repaint_0 (7, .iconst 0, 1) (List.mem_of_getElem? (i := 5) rfl)
theorem dX8_repaint_8 : decode cX8_repaint 8 = .ok (.istore_n 3, 1) := bdX8_repaint_0 (8, .istore_n 3, 1) (List.mem_of_getElem? (i := 6) rfl)
theorem dX8_repaint_9 : decode cX8_repaint 9 = .ok (.iload_n 3, 1) := bdX8_repaint_0 (9, .iload_n 3, 1) (List.mem_of_getElem? (i := 7) rfl)
theorem dX8_repaint_10 : decode cX8_repaint 10 = .ok (.aload_n 0, 1) := bdX8_repaint_0 (10, .aload_n 0, 1) (List.mem_of_getElem? (i := 8) rfl)
theorem dX8_repaint_11 : decode cX8_repaint 11 = .ok (.getfield 9, 3) := bdX8_repaint_0 (11, .getfield 9, 3) (List.mem_of_getElem? (i := 9) rfl)
theorem dX8_repaint_14 : decode cX8_repaint 14 = .ok (.iconst 1, 1) := bdX8_repaint_0 (14, .iconst 1, 1) (List.mem_of_getElem? (i := 10) rfl)
theorem dX8_repaint_15 : decode cX8_repaint 15 = .ok (.iaload, 1) := bdX8_repaint_0 (15, .iaload, 1) (List.mem_of_getElem? (i := 11) rfl)
theorem dX8_repaint_16 : decode cX8_repaint 16 = .ok (.if_icmp .ge 116, 3) := bdX8_repaint_0 (16, .if_icmp .ge 116, 3) (List.mem_of_getElem? (i := 12) rfl)
theorem dX8_repaint_19 : decode cX8_repaint 19 = .ok (.aload_n 0, 1) := bdX8_repaint_0 (19, .aload_n 0, 1) (List.mem_of_getElem? (i := 13) rfl)
theorem dX8_repaint_20 : decode cX8_repaint 20 = .ok (.iload_n 3, 1) := bdX8_repaint_0 (20, .iload_n 3, 1) (List.mem_of_getElem? (i := 14) rfl)
theorem dX8_repaint_21 : decode cX8_repaint 21 = .ok (.iconst 4, 1) := bdX8_repaint_0 (21, .iconst 4, 1) (List.mem_of_getElem? (i := 15) rfl)
theorem dX8_repaint_22 : decode cX8_repaint 22 = .ok (.invokevirtual 87, 3) := bdX8_repaint_0 (22, .invokevirtual 87, 3) (List.mem_of_getElem? (i := 16) rfl)
theorem dX8_repaint_25 : decode cX8_repaint 25 = .ok (.istore 4, 2) := bdX8_repaint_0 (25, .istore 4, 2) (List.mem_of_getElem? (i := 17) rfl)
theorem dX8_repaint_27 : decode cX8_repaint 27 = .ok (.iconst 0, 1) := bdX8_repaint_0 (27, .iconst 0, 1) (List.mem_of_getElem? (i := 18) rfl)
theorem dX8_repaint_28 : decode cX8_repaint 28 = .ok (.istore 5, 2) := bdX8_repaint_0 (28, .istore 5, 2) (List.mem_of_getElem? (i := 19) rfl)
theorem dX8_repaint_30 : decode cX8_repaint 30 = .ok (.iload 5, 2) := bdX8_repaint_0 (30, .iload 5, 2) (List.mem_of_getElem? (i := 20) rfl)
theorem dX8_repaint_32 : decode cX8_repaint 32 = .ok (.bipush 8, 2) := bdX8_repaint_0 (32, .bipush 8, 2) (List.mem_of_getElem? (i := 21) rfl)
theorem dX8_repaint_34 : decode cX8_repaint 34 = .ok (.if_icmp .ge 77, 3) := bdX8_repaint_0 (34, .if_icmp .ge 77, 3) (List.mem_of_getElem? (i := 22) rfl)
theorem dX8_repaint_37 : decode cX8_repaint 37 = .ok (.aload_n 0, 1) := bdX8_repaint_0 (37, .aload_n 0, 1) (List.mem_of_getElem? (i := 23) rfl)
theorem dX8_repaint_38 : decode cX8_repaint 38 = .ok (.iload_n 3, 1) := bdX8_repaint_0 (38, .iload_n 3, 1) (List.mem_of_getElem? (i := 24) rfl)
theorem dX8_repaint_39 : decode cX8_repaint 39 = .ok (.iconst 1, 1) := bdX8_repaint_0 (39, .iconst 1, 1) (List.mem_of_getElem? (i := 25) rfl)
theorem dX8_repaint_40 : decode cX8_repaint 40 = .ok (.invokevirtual 87, 3) := bdX8_repaint_0 (40, .invokevirtual 87, 3) (List.mem_of_getElem? (i := 26) rfl)
theorem dX8_repaint_43 : decode cX8_repaint 43 = .ok (.ifCond .ge 68, 3) := bdX8_repaint_0 (43, .ifCond .ge 68, 3) (List.mem_of_getElem? (i := 27) rfl)
theorem dX8_repaint_46 : decode cX8_repaint 46 = .ok (.iload 5, 2) := bdX8_repaint_0 (46, .iload 5, 2) (List.mem_of_getElem? (i := 28) rfl)
theorem dX8_repaint_48 : decode cX8_repaint 48 = .ok (.iload 4, 2) := bdX8_repaint_0 (48, .iload 4, 2) (List.mem_of_getElem? (i := 29) rfl)
theorem dX8_repaint_50 : decode cX8_repaint 50 = .ok (.if_icmp .eq 55, 3) := bdX8_repaint_0 (50, .if_icmp .eq 55, 3) (List.mem_of_getElem? (i := 30) rfl)
theorem dX8_repaint_53 : decode cX8_repaint 53 = .ok (.aload_n 0, 1) := bdX8_repaint_0 (53, .aload_n 0, 1) (List.mem_of_getElem? (i := 31) rfl)
theorem dX8_repaint_54 : decode cX8_repaint 54 = .ok (.getfield 9, 3) := bdX8_repaint_0 (54, .getfield 9, 3) (List.mem_of_getElem? (i := 32) rfl)
theorem dX8_repaint_57 : decode cX8_repaint 57 = .ok (.iconst 5, 1) := bdX8_repaint_0 (57, .iconst 5, 1) (List.mem_of_getElem? (i := 33) rfl)
theorem dX8_repaint_58 : decode cX8_repaint 58 = .ok (.bipush 6, 2) := bdX8_repaint_0 (58, .bipush 6, 2) (List.mem_of_getElem? (i := 34) rfl)
theorem dX8_repaint_60 : decode cX8_repaint 60 = .ok (.iload_n 3, 1) := bdX8_repaint_0 (60, .iload_n 3, 1) (List.mem_of_getElem? (i := 35) rfl)
theorem dX8_repaint_61 : decode cX8_repaint 61 = .ok (.imul, 1) := bdX8_repaint_0 (61, .imul, 1) (List.mem_of_getElem? (i := 36) rfl)
theorem dX8_repaint_62 : decode cX8_repaint 62 = .ok (.iadd, 1) := bdX8_repaint_0 (62, .iadd, 1) (List.mem_of_getElem? (i := 37) rfl)
theorem dX8_repaint_63 : decode cX8_repaint 63 = .ok (.iconst 4, 1) := bdX8_repaint_0 (63, .iconst 4, 1) (List.mem_of_getElem? (i := 38) rfl)
theorem dX8_repaint_64 : decode cX8_repaint 64 = .ok (.iadd, 1) := bdX8_repaint_0 (64, .iadd, 1) (List.mem_of_getElem? (i := 39) rfl)
theorem bdX8_repaint_65 : ∀ q ∈ ([(65, .iload 5, 2), (67, .iastore, 1), (68, .aload_n 0, 1), (69, .invokevirtual 167, 3), (72, .istore 6, 2), (74, .iload 6, 2), (76, .iload_n 2, 1), (77, .if_icmp .ge 13, 3), (80, .bipush 10, 2), (82, .iload_n 3, 1), (83, .imul, 1), (84, .iload 5, 2), (86, .iadd, 1), (87, .goto 4, 3), (90, .iload_n 1, 1), (91, .istore_n 1, 1), (92, .iload 6, 2), (94, .iload_n 2, 1), (95, .if_icmp .ge 8, 3), (98, .iload 6, 2), (100, .goto 4, 3), (103, .iload_n 2, 1), (104, .istore_n 2, 1), (105, .iinc 5 1, 3), (108, .goto (-78), 3), (111, .aload_n 0, 1), (112, .getfield 9, 3), (115, .iconst 5, 1), (116, .bipush 6, 2), (118, .iload_n 3, 1), (119, .imul, 1), (120, .iadd, 1), (121, .iconst 4, 1), (122, .iadd, 1), (123, .iload 4, 2), (125, .iastore, 1), (126, .iinc 3 1, 3), (129, .goto (-120), 3), (132, .iload_n 1, 1), (133, .invokestatic 170, 3)] : List (Nat × Jvm.ClassFile.Instr × Nat)), decode cX8_repaint q.1 = .ok q.2 := chk_ok _ 65 _ rfl (by decide +kernel)
theorem dX8_repaint_65 : decode cX8_repaint 65 = .ok (.iload 5, 2) := bdX8_repaint_65 (65, .iload 5, 2) (List.mem_of_getElem? (i := 0) rfl)
theorem dX8_repaint_67 : decode cX8_repaint 67 = .ok (.iastore, 1) := bdX8_repaint_65 (67, .iastore, 1) (List.mem_of_getElem? (i := 1) rfl)
theorem dX8_repaint_68 : decode cX8_repaint 68 = .ok (.aload_n 0, 1) := bdX8_repaint_65 (68, .aload_n 0, 1) (List.mem_of_getElem? (i := 2) rfl)
theorem dX8_repaint_69 : decode cX8_repaint 69 = .ok (.invokevirtual 167, 3) := bdX8_repaint_65 (69, .invokevirtual 167, 3) (List.mem_of_getElem? (i := 3) rfl)
theorem dX8_repaint_72 : decode cX8_repaint 72 = .ok (.istore 6, 2) := bdX8_repaint_65 (72, .istore 6, 2) (List.mem_of_getElem? (i := 4) rfl)
theorem dX8_repaint_74 : decode cX8_repaint 74 = .ok (.iload 6, 2) := bdX8_repaint_65 (74, .iload 6, 2) (List.mem_of_getElem? (i := 5) rfl)
theorem dX8_repaint_76 : decode cX8_repaint 76 = .ok (.iload_n 2, 1) := bdX8_repaint_65 (76, .iload_n 2, 1) (List.mem_of_getElem? (i := 6) rfl)
theorem dX8_repaint_77 : decode cX8_repaint 77 = .ok (.if_icmp .ge 13, 3) := bdX8_repaint_65 (77, .if_icmp .ge 13, 3) (List.mem_of_getElem? (i := 7) rfl)
theorem dX8_repaint_80 : decode cX8_repaint 80 = .ok (.bipush 10, 2) := bdX8_repaint_65 (80, .bipush 10, 2) (List.mem_of_getElem? (i := 8) rfl)
theorem dX8_repaint_82 : decode cX8_repaint 82 = .ok (.iload_n 3, 1) := bdX8_repaint_65 (82, .iload_n 3, 1) (List.mem_of_getElem? (i := 9) rfl)
theorem dX8_repaint_83 : decode cX8_repaint 83 = .ok (.imul, 1) := bdX8_repaint_65 (83, .imul, 1) (List.mem_of_getElem? (i := 10) rfl)
theorem dX8_repaint_84 : decode cX8_repaint 84 = .ok (.iload 5, 2) := bdX8_repaint_65 (84, .iload 5, 2) (List.mem_of_getElem? (i := 11) rfl)
theorem dX8_repaint_86 : decode cX8_repaint 86 = .ok (.iadd, 1) := bdX8_repaint_65 (86, .iadd, 1) (List.mem_of_getElem? (i := 12) rfl)
theorem dX8_repaint_87 : decode cX8_repaint 87 = .ok (.goto 4, 3) := bdX8_repaint_65 (87, .goto 4, 3) (List.mem_of_getElem? (i := 13) rfl)
theorem dX8_repaint_90 : decode cX8_repaint 90 = .ok (.iload_n 1, 1) := bdX8_repaint_65 (90, .iload_n 1, 1) (List.mem_of_getElem? (i := 14) rfl)
theorem dX8_repaint_91 : decode cX8_repaint 91 = .ok (.istore_n 1, 1) := bdX8_repaint_65 (91, .istore_n 1, 1) (List.mem_of_getElem? (i := 15) rfl)
theorem dX8_repaint_92 : decode cX8_repaint 92 = .ok (.iload 6, 2) := bdX8_repaint_65 (92, .iload 6, 2) (List.mem_of_getElem? (i := 16) rfl)
theorem dX8_repaint_94 : decode cX8_repaint 94 = .ok (.iload_n 2, 1) := bdX8_repaint_65 (94, .iload_n 2, 1) (List.mem_of_getElem? (i := 17) rfl)
theorem dX8_repaint_95 : decode cX8_repaint 95 = .ok (.if_icmp .ge 8, 3) := bdX8_repaint_65 (95, .if_icmp .ge 8, 3) (List.mem_of_getElem? (i := 18) rfl)
theorem dX8_repaint_98 : decode cX8_repaint 98 = .ok (.iload 6, 2) := bdX8_repaint_65 (98, .iload 6, 2) (List.mem_of_getElem? (i := 19) rfl)
theorem dX8_repaint_100 : decode cX8_repaint 100 = .ok (.goto 4, 3) := bdX8_repaint_65 (100, .goto 4, 3) (List.mem_of_getElem? (i := 20) rfl)
theorem dX8_repaint_103 : decode cX8_repaint 103 = .ok (.iload_n 2, 1) := bdX8_repaint_65 (103, .iload_n 2, 1) (List.mem_of_getElem? (i := 21) rfl)
theorem dX8_repaint_104 : decode cX8_repaint 104 = .ok (.istore_n 2, 1) := bdX8_repaint_65 (104, .istore_n 2, 1) (List.mem_of_getElem? (i := 22) rfl)
theorem dX8_repaint_105 : decode cX8_repaint 105 = .ok (.iinc 5 1, 3) := bdX8_repaint_65 (105, .iinc 5 1, 3) (List.mem_of_getElem? (i := 23) rfl)
theorem dX8_repaint_108 : decode cX8_repaint 108 = .ok (.goto (-78), 3) := bdX8_repaint_65 (108, .goto (-78), 3) (List.mem_of_getElem? (i := 24) rfl)
theorem dX8_repaint_111 : decode cX8_repaint 111 = .ok (.aload_n 0, 1) := bdX8_repaint_65 (111, .aload_n 0, 1) (List.mem_of_getElem? (i := 25) rfl)
theorem dX8_repaint_112 : decode cX8_repaint 112 = .ok (.getfield 9, 3) := bdX8_repaint_65 (112, .getfield 9, 3) (List.mem_of_getElem? (i := 26) rfl)
theorem dX8_repaint_115 : decode cX8_repaint 115 = .ok (.iconst 5, 1) := bdX8_repaint_65 (115, .iconst 5, 1) (List.mem_of_getElem? (i := 27) rfl)
theorem dX8_repaint_116 : decode cX8_repaint 116 = .ok (.bipush 6, 2) := bdX8_repaint_65 (116, .bipush 6, 2) (List.mem_of_getElem? (i := 28) rfl)
theorem dX8_repaint_118 : decode cX8_repaint 118 = .ok (.iload_n 3, 1) := bdX8_repaint_65 (118, .iload_n 3, 1) (List.mem_of_getElem? (i := 29) rfl)
theorem dX8_repaint_119 : decode cX8_repaint 119 = .ok (.imul, 1) := bdX8_repaint_65 (119, .imul, 1) (List.mem_of_getElem? (i := 30) rfl)
theorem dX8_repaint_120 : decode cX8_repaint 120 = .ok (.iadd, 1) := bdX8_repaint_65 (120, .iadd, 1) (List.mem_of_getElem? (i := 31) rfl)
theorem dX8_repaint_121 : decode cX8_repaint 121 = .ok (.iconst 4, 1) := bdX8_repaint_65 (121, .iconst 4, 1) (List.mem_of_getElem? (i := 32) rfl)
theorem dX8_repaint_122 : decode cX8_repaint 122 = .ok (.iadd, 1) := bdX8_repaint_65 (122, .iadd, 1) (List.mem_of_getElem? (i := 33) rfl)
theorem dX8_repaint_123 : decode cX8_repaint 123 = .ok (.iload 4, 2) := bdX8_repaint_65 (123, .iload 4, 2) (List.mem_of_getElem? (i := 34) rfl)
theorem dX8_repaint_125 : decode cX8_repaint 125 = .ok (.iastore, 1) := bdX8_repaint_65 (125, .iastore, 1) (List.mem_of_getElem? (i := 35) rfl)
theorem dX8_repaint_126 : decode cX8_repaint 126 = .ok (.iinc 3 1, 3) := bdX8_repaint_65 (126, .iinc 3 1, 3) (List.mem_of_getElem? (i := 36) rfl)
theorem dX8_repaint_129 : decode cX8_repaint 129 = .ok (.goto (-120), 3) := bdX8_repaint_65 (129, .goto (-120), 3) (List.mem_of_getElem? (i := 37) rfl)
theorem dX8_repaint_132 : decode cX8_repaint 132 = .ok (.iload_n 1, 1) := bdX8_repaint_65 (132, .iload_n 1, 1) (List.mem_of_getElem? (i := 38) rfl)
theorem dX8_repaint_133 : decode cX8_repaint 133 = .ok (.invokestatic 170, 3) := bdX8_repaint_65 (133, .invokestatic 170, 3) (List.mem_of_getElem? (i := 39) rfl)
theorem bdX8_repaint_136 : ∀ q ∈ ([(136, .ireturn, 1)] : List (Nat × Jvm.ClassFile.Instr × Nat)), decode cX8_repaint q.1 = .ok q.2 := chk_ok _ 136 _ rfl (by decide +kernel)
theorem dX8_repaint_136 : decode cX8_repaint 136 = .ok (.ireturn, 1) := bdX8_repaint_136 (136, .ireturn, 1) (List.mem_of_getElem? (i := 0) rfl)
def BX8_repaint_111 (ln : Nat → Nat) (post : Int32 → HC → Prop) (K9 : HC → Nat → Int32 → Int32 → Int32 → Prop) (S : HC) (x0 : Nat) (x1 : Int32) (x2 : Int32) (x3 : Int32) (x4 : Int32) : Prop := dn_ (hR S x0 0) fun b1 => lt_ ((6 : Int32) * x3) fun z2 => lt_ ((5 : Int32) + z2) fun z3 => lt_ (z3 + (4 : Int32)) fun z4 => as_ (ln b1) z4 (fun j => sI S b1 j x4) fun S => lt_ (x3 + (1 : Int32)) fun z5 => K9 S x0 x1 x2 z5
def BX8_repaint_105 (ln : Nat → Nat) (post : Int32 → HC → Prop) (K9 : HC → Nat → Int32 → Int32 → Int32 → Prop) (K30 : HC → Nat → Int32 → Int32 → Int32 → Int32 → Int32 → Prop) (S : HC) (x0 : Nat) (x1 : Int32) (x2 : Int32) (x3 : Int32) (x4 : Int32) (x5 : Int32) : Prop := lt_ (x5 + (1 : Int32)) fun z6 => K30 S x0 x1 x2 x3 x4 z6
def BX8_repaint_104 (ln : Nat → Nat) (post : Int32 → HC → Prop) (K9 : HC → Nat → Int32 → Int32 → Int32 → Prop) (K30 : HC → Nat → Int32 → Int32 → Int32 → Int32 → Int32 → Prop) (S : HC) (x0 : Nat) (x1 : Int32) (x3 : Int32) (x4 : Int32) (x5 : Int32) (t0 : Int32) : Prop := BX8_repaint_105 ln post K9 K30 S x0 x1 t0 x3 x4 x5
def BX8_repaint_91 (ln : Nat → Nat) (post : Int32 → HC → Prop) (K9 : HC → Nat → Int32 → Int32 → Int32 → Prop) (K30 : HC → Nat → Int32 → Int32 → Int32 → Int32 → Int32 → Prop) (S : HC) (x0 : Nat) (x2 : Int32) (x3 : Int32) (x4 : Int32) (x5 : Int32) (x6 : Int32) (t0 : Int32) : Prop := if x2 ≤ x6 then (BX8_repaint_104 ln post K9 K30 S x0 t0 x3 x4 x5 x2) else (BX8_repaint_104 ln post K9 K30 S x0 t0 x3 x4 x5 x6)
def LX8_repaint_30 (ln : Nat → Nat) (post : Int32 → HC → Prop) (K9 : HC → Nat → Int32 → Int32 → Int32 → Prop) : Nat → HC → Nat → Int32 → Int32 → Int32 → Int32 → Int32 → Prop
  | 0 => fun _ _ _ _ _ _ _ => False
  | n30 + 1 => fun S x0 x1 x2 x3 x4 x5 => if (8 : Int32) ≤ x5 then (BX8_repaint_111 ln post K9 S x0 x1 x2 x3 x4) else (wpX8_of ln S x0 x3 (1 : Int32) fun z7 S => if 0 ≤ z7 then (BX8_repaint_111 ln post K9 S x0 x1 x2 x3 x4) else (if x5 = x4 then (BX8_repaint_105 ln post K9 (LX8_repaint_30 ln post K9 n30) S x0 x1 x2 x3 x4 x5) else (dn_ (hR S x0 0) fun b8 => lt_ ((6 : Int32) * x3) fun z9 => lt_ ((5 : Int32) + z9) fun z10 => lt_ (z10 + (4 : Int32)) fun z11 => as_ (ln b8) z11 (fun j => sI S b8 j x5) fun S => wpX8_clashes ln S x0 fun z12 S => if x2 ≤ z12 then (BX8_repaint_91 ln post K9 (LX8_repaint_30 ln post K9 n30) S x0 x2 x3 x4 x5 z12 x1) else (lt_ ((10 : Int32) * x3) fun z13 => lt_ (z13 + x5) fun z14 => BX8_repaint_91 ln post K9 (LX8_repaint_30 ln post K9 n30) S x0 x2 x3 x4 x5 z12 z14))))
def LX8_repaint_9 (ln : Nat → Nat) (post : Int32 → HC → Prop) : Nat → HC → Nat → Int32 → Int32 → Int32 → Prop
  | 0 => fun _ _ _ _ _ => False
  | n9 + 1 => fun S x0 x1 x2 x3 => dn_ (hR S x0 0) fun b15 => al_ (ln b15) (1 : Int32) (hI S b15) fun z16 => if z16 ≤ x3 then (wpX8_told0 ln S x1 fun z17 S => post z17 S) else (wpX8_of ln S x0 x3 (4 : Int32) fun z18 S => ∃ n30, LX8_repaint_30 ln post (LX8_repaint_9 ln post n9) n30 S x0 x1 x2 x3 z18 (0 : Int32))
def wpX8_repaint (ln : Nat → Nat) (S : HC) (a0 : Nat) (post : Int32 → HC → Prop) : Prop := wpX8_clashes ln S a0 fun z19 S => ∃ n9, LX8_repaint_9 ln post n9 S a0 (-1 : Int32) z19 (0 : Int32)
abbrev rmX8_repaint : Room := { frames := 8, cells := 0, slots := 0, locals := 188 }
set_option maxHeartbeats 4000000 in
set_option maxRecDepth 100000 in
theorem ctX8_repaint {l : Launch} {g : GX} {N : Nat} {ln : Nat → Nat} {S : HC} {a0 : Nat} {post : Int32 → HC → Prop} (hr_a0 : a0 < N) (hk_a0 : kd a0 = 8) (h : wpX8_repaint ln S a0 post) : Met l yX8_repaint (Cond.code yX8_repaint prog_10_method_43_code 7 (Option.some Jvm.ClassFile.FieldType.int) :: gtbl) rmX8_repaint (va_Pc [.ref (gz g + a0)] (AtP g N ln S)) (QI g N ln post) 0 0 (gF g) := by
  refine m_of (by decide) (Nat.le_of_ble_eq_true rfl) ?_
  intro p e s m below meth c ls F hr I hl
  have hl : lv_has ls 7 [(0, .ref (gz g + a0))] := hl
  unfold wpX8_repaint at h
  have hl_9 : ∀ n9 : Nat, ∀ (S : HC) (H : Heap) (locs : List Loc) (ls : Array Slot) (x0 : Nat) (x1 : Int32) (x2 : Int32) (x3 : Int32), x0 < N → kd x0 = 8 → LX8_repaint_9 ln post n9 S x0 x1 x2 x3 → Inv g N ln S s H locs → lv_has ls 7 [(0, .ref (gz g + x0)), (1, .int x1), (2, .int x2), (3, .int x3)] → W p l e rmX8_repaint s m ([.ref (gz g + a0)] : List Value).toArray below meth c H locs 0 0 (MQ below (QI g N ln post) ([.ref (gz g + a0)] : List Value).toArray s 0 0 (gF g)) (F0 m 9 ls []) := by
    intro n9
    induction n9 with
    | zero =>
      intro S H locs ls x0 x1 x2 x3 hr_x0 hk_x0 h I hl
      exact h.elim
    | succ n9 ih =>
      have hk9 := ih
      have hj_111 : ∀ (S : HC) (H : Heap) (locs : List Loc) (ls : Array Slot) (x0 : Nat) (x1 : Int32) (x2 : Int32) (x3 : Int32) (x4 : Int32), x0 < N → kd x0 = 8 → BX8_repaint_111 ln post (LX8_repaint_9 ln post n9) S x0 x1 x2 x3 x4 → Inv g N ln S s H locs → lv_has ls 7 [(0, .ref (gz g + x0)), (1, .int x1), (2, .int x2), (3, .int x3), (4, .int x4)] → W p l e rmX8_repaint s m ([.ref (gz g + a0)] : List Value).toArray below meth c H locs 0 0 (MQ below (QI g N ln post) ([.ref (gz g + a0)] : List Value).toArray s 0 0 (gF g)) (F0 m 111 ls []) := by
        intro S H locs ls x0 x1 x2 x3 x4 hr_x0 hk_x0 h I hl
        unfold BX8_repaint_111 at h
        refine lv_aload_n F.1 F.2.1 dX8_repaint_111 rfl (lv_at hl 0 rfl) ?_
        refine r_getN F I hr_x0 hk_x0 fX8_9 (f := 9) rfl (by decide) dX8_repaint_112 h (fun b1 hr_b1 hk_b1 h => ?_)
        refine lv_iconst (v := 5) F.1 F.2.1 dX8_repaint_115 (by decide) ?_
        refine lv_bipush (v := 6) F.1 F.2.1 dX8_repaint_116 (by decide) ?_
        refine lv_iload_n F.1 F.2.1 dX8_repaint_118 rfl (lv_at hl 3 rfl) ?_
        refine r_imul F dX8_repaint_119 h (fun z2 h => ?_)
        refine r_iadd F dX8_repaint_120 h (fun z3 h => ?_)
        refine lv_iconst (v := 4) F.1 F.2.1 dX8_repaint_121 (by decide) ?_
        refine r_iadd F dX8_repaint_122 h (fun z4 h => ?_)
        refine lv_iload F.1 F.2.1 dX8_repaint_123 (lv_at hl 4 rfl) ?_
        refine r_ast F I hr_b1 hk_b1 dX8_repaint_125 h (fun S H locs I h => ?_)
        obtain ⟨z5, e_z5, h⟩ := lt_x h
        refine lv_iinc (v := z5) (lv' := [(3, .int z5), (0, .ref (gz g + x0)), (1, .int x1), (2, .int x2), (4, .int x4)]) F.1 F.2.1 dX8_repaint_126 hl (k := 3) rfl (by rw [e_z5]; rfl) (by decide) rfl (fun ls hl => ?_)
        refine lv_goto (tgt := 9) F.1 F.2.1 dX8_repaint_129 (by decide) ?_
        exact hk9 S _ _ _ x0 x1 x2 z5 hr_x0 hk_x0 h I (lv_sub hl [1, 2, 3, 0] rfl)
      have hl_30 : ∀ n30 : Nat, ∀ (S : HC) (H : Heap) (locs : List Loc) (ls : Array Slot) (x0 : Nat) (x1 : Int32) (x2 : Int32) (x3 : Int32) (x4 : Int32) (x5 : Int32), x0 < N → kd x0 = 8 → LX8_repaint_30 ln post (LX8_repaint_9 ln post n9) n30 S x0 x1 x2 x3 x4 x5 → Inv g N ln S s H locs → lv_has ls 7 [(0, .ref (gz g + x0)), (1, .int x1), (2, .int x2), (3, .int x3), (4, .int x4), (5, .int x5)] → W p l e rmX8_repaint s m ([.ref (gz g + a0)] : List Value).toArray below meth c H locs 0 0 (MQ below (QI g N ln post) ([.ref (gz g + a0)] : List Value).toArray s 0 0 (gF g)) (F0 m 30 ls []) := by
        intro n30
        induction n30 with
        | zero =>
          intro S H locs ls x0 x1 x2 x3 x4 x5 hr_x0 hk_x0 h I hl
          exact h.elim
        | succ n30 ih =>
          have hk30 := ih
          have hj_105 : ∀ (S : HC) (H : Heap) (locs : List Loc) (ls : Array Slot) (x0 : Nat) (x1 : Int32) (x2 : Int32) (x3 : Int32) (x4 : Int32) (x5 : Int32), x0 < N → kd x0 = 8 → BX8_repaint_105 ln post (LX8_repaint_9 ln post n9) (LX8_repaint_30 ln post (LX8_repaint_9 ln post n9) n30) S x0 x1 x2 x3 x4 x5 → Inv g N ln S s H locs → lv_has ls 7 [(0, .ref (gz g + x0)), (1, .int x1), (2, .int x2), (3, .int x3), (4, .int x4), (5, .int x5)] → W p l e rmX8_repaint s m ([.ref (gz g + a0)] : List Value).toArray below meth c H locs 0 0 (MQ below (QI g N ln post) ([.ref (gz g + a0)] : List Value).toArray s 0 0 (gF g)) (F0 m 105 ls []) := by
            intro S H locs ls x0 x1 x2 x3 x4 x5 hr_x0 hk_x0 h I hl
            unfold BX8_repaint_105 at h
            obtain ⟨z6, e_z6, h⟩ := lt_x h
            refine lv_iinc (v := z6) (lv' := [(5, .int z6), (0, .ref (gz g + x0)), (1, .int x1), (2, .int x2), (3, .int x3), (4, .int x4)]) F.1 F.2.1 dX8_repaint_105 hl (k := 5) rfl (by rw [e_z6]; rfl) (by decide) rfl (fun ls hl => ?_)
            refine lv_goto (tgt := 30) F.1 F.2.1 dX8_repaint_108 (by decide) ?_
            exact hk30 S _ _ _ x0 x1 x2 x3 x4 z6 hr_x0 hk_x0 h I (lv_sub hl [1, 2, 3, 4, 5, 0] rfl)
          have hj_104 : ∀ (S : HC) (H : Heap) (locs : List Loc) (ls : Array Slot) (x0 : Nat) (x1 : Int32) (x3 : Int32) (x4 : Int32) (x5 : Int32) (t0 : Int32), x0 < N → kd x0 = 8 → BX8_repaint_104 ln post (LX8_repaint_9 ln post n9) (LX8_repaint_30 ln post (LX8_repaint_9 ln post n9) n30) S x0 x1 x3 x4 x5 t0 → Inv g N ln S s H locs → lv_has ls 7 [(0, .ref (gz g + x0)), (1, .int x1), (3, .int x3), (4, .int x4), (5, .int x5)] → W p l e rmX8_repaint s m ([.ref (gz g + a0)] : List Value).toArray below meth c H locs 0 0 (MQ below (QI g N ln post) ([.ref (gz g + a0)] : List Value).toArray s 0 0 (gF g)) (F0 m 104 ls [.int t0]) := by
            intro S H locs ls x0 x1 x3 x4 x5 t0 hr_x0 hk_x0 h I hl
            unfold BX8_repaint_104 at h
            refine lv_istore_n (lv' := [(2, .int t0), (0, .ref (gz g + x0)), (1, .int x1), (3, .int x3), (4, .int x4), (5, .int x5)]) F.1 F.2.1 dX8_repaint_104 rfl hl (by decide) rfl (fun ls hl => ?_)
            exact hj_105 S _ _ _ x0 x1 t0 x3 x4 x5 hr_x0 hk_x0 h I (lv_sub hl [1, 2, 0, 3, 4, 5] rfl)
          have hj_91 : ∀ (S : HC) (H : Heap) (locs : List Loc) (ls : Array Slot) (x0 : Nat) (x2 : Int32) (x3 : Int32) (x4 : Int32) (x5 : Int32) (x6 : Int32) (t0 : Int32), x0 < N → kd x0 = 8 → BX8_repaint_91 ln post (LX8_repaint_9 ln post n9) (LX8_repaint_30 ln post (LX8_repaint_9 ln post n9) n30) S x0 x2 x3 x4 x5 x6 t0 → Inv g N ln S s H locs → lv_has ls 7 [(0, .ref (gz g + x0)), (2, .int x2), (3, .int x3), (4, .int x4), (5, .int x5), (6, .int x6)] → W p l e rmX8_repaint s m ([.ref (gz g + a0)] : List Value).toArray below meth c H locs 0 0 (MQ below (QI g N ln post) ([.ref (gz g + a0)] : List Value).toArray s 0 0 (gF g)) (F0 m 91 ls [.int t0]) := by
            intro S H locs ls x0 x2 x3 x4 x5 x6 t0 hr_x0 hk_x0 h I hl
            unfold BX8_repaint_91 at h
            refine lv_istore_n (lv' := [(1, .int t0), (0, .ref (gz g + x0)), (2, .int x2), (3, .int x3), (4, .int x4), (5, .int x5), (6, .int x6)]) F.1 F.2.1 dX8_repaint_91 rfl hl (by decide) rfl (fun ls hl => ?_)
            refine lv_iload F.1 F.2.1 dX8_repaint_92 (lv_at hl 6 rfl) ?_
            refine lv_iload_n F.1 F.2.1 dX8_repaint_94 rfl (lv_at hl 2 rfl) ?_
            refine r_icmp_ge (tgt := 103) F dX8_repaint_95 (by decide) h (fun h => ?_) (fun h => ?_)
            · refine lv_iload_n F.1 F.2.1 dX8_repaint_103 rfl (lv_at hl 2 rfl) ?_
              exact hj_104 S _ _ _ x0 t0 x3 x4 x5 x2 hr_x0 hk_x0 h I (lv_sub hl [1, 0, 3, 4, 5] rfl)
            · refine lv_iload F.1 F.2.1 dX8_repaint_98 (lv_at hl 6 rfl) ?_
              refine lv_goto (tgt := 104) F.1 F.2.1 dX8_repaint_100 (by decide) ?_
              exact hj_104 S _ _ _ x0 t0 x3 x4 x5 x6 hr_x0 hk_x0 h I (lv_sub hl [1, 0, 3, 4, 5] rfl)
          intro S H locs ls x0 x1 x2 x3 x4 x5 hr_x0 hk_x0 h I hl
          rw [LX8_repaint_30] at h
          refine lv_iload F.1 F.2.1 dX8_repaint_30 (lv_at hl 5 rfl) ?_
          refine lv_bipush (v := 8) F.1 F.2.1 dX8_repaint_32 (by decide) ?_
          refine r_icmp_ge (tgt := 111) F dX8_repaint_34 (by decide) h (fun h => ?_) (fun h => ?_)
          · exact hj_111 S _ _ _ x0 x1 x2 x3 x4 hr_x0 hk_x0 h I (lv_sub hl [0, 1, 2, 3, 4] rfl)
          · refine lv_aload_n F.1 F.2.1 dX8_repaint_37 rfl (lv_at hl 0 rfl) ?_
            refine lv_iload_n F.1 F.2.1 dX8_repaint_38 rfl (lv_at hl 3 rfl) ?_
            refine lv_iconst (v := 1) F.1 F.2.1 dX8_repaint_39 (by decide) ?_
            refine g_I I (run_V (As := [.int x3, .int (1 : Int32)]) (rest := []) F I hr_x0 hk_x0 (by decide) kX8_87 (ctX8_of hr_x0 hk_x0 h) ⟨rfl, rfl⟩ ⟨Nat.le_of_ble_eq_true rfl, Nat.le_of_ble_eq_true rfl⟩ rfl hl.1 rfl (Nat.le_of_ble_eq_true rfl) ⟨Nat.le_of_ble_eq_true rfl, Nat.le_of_ble_eq_true rfl⟩ dX8_repaint_40) (fun z7 S H locs I h => ?_)
            refine r_if_ge (tgt := 111) F dX8_repaint_43 (by decide) h (fun h => ?_) (fun h => ?_)
            · exact hj_111 S _ _ _ x0 x1 x2 x3 x4 hr_x0 hk_x0 h I (lv_sub hl [0, 1, 2, 3, 4] rfl)
            · refine lv_iload F.1 F.2.1 dX8_repaint_46 (lv_at hl 5 rfl) ?_
              refine lv_iload F.1 F.2.1 dX8_repaint_48 (lv_at hl 4 rfl) ?_
              refine r_icmp_eq (tgt := 105) F dX8_repaint_50 (by decide) h (fun h => ?_) (fun h => ?_)
              · exact hj_105 S _ _ _ x0 x1 x2 x3 x4 x5 hr_x0 hk_x0 h I (lv_sub hl [0, 1, 2, 3, 4, 5] rfl)
              · refine lv_aload_n F.1 F.2.1 dX8_repaint_53 rfl (lv_at hl 0 rfl) ?_
                refine r_getN F I hr_x0 hk_x0 fX8_9 (f := 9) rfl (by decide) dX8_repaint_54 h (fun b8 hr_b8 hk_b8 h => ?_)
                refine lv_iconst (v := 5) F.1 F.2.1 dX8_repaint_57 (by decide) ?_
                refine lv_bipush (v := 6) F.1 F.2.1 dX8_repaint_58 (by decide) ?_
                refine lv_iload_n F.1 F.2.1 dX8_repaint_60 rfl (lv_at hl 3 rfl) ?_
                refine r_imul F dX8_repaint_61 h (fun z9 h => ?_)
                refine r_iadd F dX8_repaint_62 h (fun z10 h => ?_)
                refine lv_iconst (v := 4) F.1 F.2.1 dX8_repaint_63 (by decide) ?_
                refine r_iadd F dX8_repaint_64 h (fun z11 h => ?_)
                refine lv_iload F.1 F.2.1 dX8_repaint_65 (lv_at hl 5 rfl) ?_
                refine r_ast F I hr_b8 hk_b8 dX8_repaint_67 h (fun S H locs I h => ?_)
                refine lv_aload_n F.1 F.2.1 dX8_repaint_68 rfl (lv_at hl 0 rfl) ?_
                refine g_I I (run_V (As := []) (rest := []) F I hr_x0 hk_x0 (by decide) kX8_167 (ctX8_clashes hr_x0 hk_x0 h) ⟨rfl, rfl⟩ ⟨Nat.le_of_ble_eq_true rfl, Nat.le_of_ble_eq_true rfl⟩ rfl hl.1 rfl (Nat.le_of_ble_eq_true rfl) ⟨Nat.le_of_ble_eq_true rfl, Nat.le_of_ble_eq_true rfl⟩ dX8_repaint_69) (fun z12 S H locs I h => ?_)
                refine lv_istore (lv' := [(6, .int z12), (0, .ref (gz g + x0)), (1, .int x1), (2, .int x2), (3, .int x3), (4, .int x4), (5, .int x5)]) F.1 F.2.1 dX8_repaint_72 hl (by decide) rfl (fun ls hl => ?_)
                refine lv_iload F.1 F.2.1 dX8_repaint_74 (lv_at hl 0 rfl) ?_
                refine lv_iload_n F.1 F.2.1 dX8_repaint_76 rfl (lv_at hl 3 rfl) ?_
                refine r_icmp_ge (tgt := 90) F dX8_repaint_77 (by decide) h (fun h => ?_) (fun h => ?_)
                · refine lv_iload_n F.1 F.2.1 dX8_repaint_90 rfl (lv_at hl 2 rfl) ?_
                  exact hj_91 S _ _ _ x0 x2 x3 x4 x5 z12 x1 hr_x0 hk_x0 h I (lv_sub hl [1, 3, 4, 5, 6, 0] rfl)
                · refine lv_bipush (v := 10) F.1 F.2.1 dX8_repaint_80 (by decide) ?_
                  refine lv_iload_n F.1 F.2.1 dX8_repaint_82 rfl (lv_at hl 4 rfl) ?_
                  refine r_imul F dX8_repaint_83 h (fun z13 h => ?_)
                  refine lv_iload F.1 F.2.1 dX8_repaint_84 (lv_at hl 6 rfl) ?_
                  refine r_iadd F dX8_repaint_86 h (fun z14 h => ?_)
                  refine lv_goto (tgt := 91) F.1 F.2.1 dX8_repaint_87 (by decide) ?_
                  exact hj_91 S _ _ _ x0 x2 x3 x4 x5 z12 z14 hr_x0 hk_x0 h I (lv_sub hl [1, 3, 4, 5, 6, 0] rfl)
      intro S H locs ls x0 x1 x2 x3 hr_x0 hk_x0 h I hl
      rw [LX8_repaint_9] at h
      refine lv_iload_n F.1 F.2.1 dX8_repaint_9 rfl (lv_at hl 3 rfl) ?_
      refine lv_aload_n F.1 F.2.1 dX8_repaint_10 rfl (lv_at hl 0 rfl) ?_
      refine r_getN F I hr_x0 hk_x0 fX8_9 (f := 9) rfl (by decide) dX8_repaint_11 h (fun b15 hr_b15 hk_b15 h => ?_)
      refine lv_iconst (v := 1) F.1 F.2.1 dX8_repaint_14 (by decide) ?_
      refine r_ald F I hr_b15 hk_b15 dX8_repaint_15 h (fun z16 h => ?_)
      refine r_icmp_ge (tgt := 132) F dX8_repaint_16 (by decide) h (fun h => ?_) (fun h => ?_)
      · refine lv_iload_n F.1 F.2.1 dX8_repaint_132 rfl (lv_at hl 1 rfl) ?_
        refine g_I I (run_S (As := [.int x1]) (rest := []) F I kX8_170 (ctX8_told0 h) ⟨rfl, rfl⟩ ⟨Nat.le_of_ble_eq_true rfl, Nat.le_of_ble_eq_true rfl⟩ rfl hl.1 rfl (Nat.le_of_ble_eq_true rfl) ⟨Nat.le_of_ble_eq_true rfl, Nat.le_of_ble_eq_true rfl⟩ dX8_repaint_133) (fun z17 S H locs I h => ?_)
        exact r_ireturn F I ⟨hr.1, hr.2.1, trivial⟩ h dX8_repaint_136
      · refine lv_aload_n F.1 F.2.1 dX8_repaint_19 rfl (lv_at hl 0 rfl) ?_
        refine lv_iload_n F.1 F.2.1 dX8_repaint_20 rfl (lv_at hl 3 rfl) ?_
        refine lv_iconst (v := 4) F.1 F.2.1 dX8_repaint_21 (by decide) ?_
        refine g_I I (run_V (As := [.int x3, .int (4 : Int32)]) (rest := []) F I hr_x0 hk_x0 (by decide) kX8_87 (ctX8_of hr_x0 hk_x0 h) ⟨rfl, rfl⟩ ⟨Nat.le_of_ble_eq_true rfl, Nat.le_of_ble_eq_true rfl⟩ rfl hl.1 rfl (Nat.le_of_ble_eq_true rfl) ⟨Nat.le_of_ble_eq_true rfl, Nat.le_of_ble_eq_true rfl⟩ dX8_repaint_22) (fun z18 S H locs I h => ?_)
        refine lv_istore (lv' := [(4, .int z18), (0, .ref (gz g + x0)), (1, .int x1), (2, .int x2), (3, .int x3)]) F.1 F.2.1 dX8_repaint_25 hl (by decide) rfl (fun ls hl => ?_)
        refine lv_iconst (v := 0) F.1 F.2.1 dX8_repaint_27 (by decide) ?_
        refine lv_istore (lv' := [(5, .int (0 : Int32)), (4, .int z18), (0, .ref (gz g + x0)), (1, .int x1), (2, .int x2), (3, .int x3)]) F.1 F.2.1 dX8_repaint_28 hl (by decide) rfl (fun ls hl => ?_)
        obtain ⟨n30, h⟩ := h
        exact hl_30 n30 S _ _ _ x0 x1 x2 x3 z18 (0 : Int32) hr_x0 hk_x0 h I (lv_sub hl [2, 3, 4, 5, 1, 0] rfl)
  refine lv_iconst (v := -1) F.1 F.2.1 dX8_repaint_0 (by decide) ?_
  refine lv_istore_n (lv' := [(1, .int (-1 : Int32)), (0, .ref (gz g + a0))]) F.1 F.2.1 dX8_repaint_1 rfl hl (by decide) rfl (fun ls hl => ?_)
  refine lv_aload_n F.1 F.2.1 dX8_repaint_2 rfl (lv_at hl 1 rfl) ?_
  refine g_I I (run_V (As := []) (rest := []) F I hr_a0 hk_a0 (by decide) kX8_167 (ctX8_clashes hr_a0 hk_a0 h) ⟨rfl, rfl⟩ ⟨Nat.le_of_ble_eq_true rfl, Nat.le_of_ble_eq_true rfl⟩ rfl hl.1 rfl (Nat.le_of_ble_eq_true rfl) ⟨Nat.le_of_ble_eq_true rfl, Nat.le_of_ble_eq_true rfl⟩ dX8_repaint_3) (fun z19 S H locs I h => ?_)
  refine lv_istore_n (lv' := [(2, .int z19), (1, .int (-1 : Int32)), (0, .ref (gz g + a0))]) F.1 F.2.1 dX8_repaint_6 rfl hl (by decide) rfl (fun ls hl => ?_)
  refine lv_iconst (v := 0) F.1 F.2.1 dX8_repaint_7 (by decide) ?_
  refine lv_istore_n (lv' := [(3, .int (0 : Int32)), (2, .int z19), (1, .int (-1 : Int32)), (0, .ref (gz g + a0))]) F.1 F.2.1 dX8_repaint_8 rfl hl (by decide) rfl (fun ls hl => ?_)
  obtain ⟨n9, h⟩ := h
  exact hl_9 n9 S _ _ _ a0 (-1 : Int32) z19 (0 : Int32) hr_a0 hk_a0 h I (lv_sub hl [3, 2, 1, 0] rfl)
