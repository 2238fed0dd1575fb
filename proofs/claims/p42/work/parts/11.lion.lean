theorem bdX7_think_0 : ∀ q ∈ ([(0, .aload_n 0, 1), (1, .getfield 23, 3), (4, .aload_n 0, 1), (5, .getfield 10, 3), (8, .invokevirtual 181, 3), (11, .iconst 0, 1), (12, .istore_n 2, 1), (13, .iload_n 2, 1), (14, .iload_n 1, 1), (15, .if_icmp .ge 17, 3), (18, .aload_n 0, 1), (19, .getfield 23, 3), (22, .invokevirtual 146, 3), (25, .pop, 1), (26, .iinc 2 1, 3), (29, .goto (-16), 3), (32, .return_, 1)] : List (Nat × Jvm.ClassFile.Instr × Nat)), decode cX7_think q.1 = .ok q.2 := chk_ok _ 0 _ rfl (by decide +kernel)
theorem dX7_think_0 : decode cX7_think 0 = .ok (.aload_n 0, 1) := bdX7_think_0 (0, .aload_n 0, 1) (List.mem_of_getElem? (i := 0) rfl)
theorem dX7_think_1 : decode cX7_think 1 = .ok (.getfield 23, 3) := bdX7_think_0 (1, .getfield 23, 3) (List.mem_of_getElem? (i := 1) rfl)
theorem dX7_think_4 : decode cX7_think 4 = .ok (.aload_n 0, 1) := bdX7_think_0 (4, .aload_n 0, 1) (List.mem_of_getElem? (i := 2) rfl)
theorem dX7_think_5 : decode cX7_think 5 = .ok (.getfield 10, 3) := bdX7_think_0 (5, .getfield 10, 3) (List.mem_of_getElem? (i := 3) rfl)
theorem dX7_think_8 : decode cX7_think 8 = .ok (.invokevirtual 181, 3) := bdX7_think_0 (8, .invokevirtual 181, 3) (List.mem_of_getElem? (i := 4) rfl)
theorem dX7_think_11 : decode cX7_think 11 = .ok (.iconst 0, 1) := bdX7_think_0 (11, .iconst 0, 1) (List.mem_of_getElem? (i := 5) rfl)
theorem dX7_think_12 : decode cX7_think 12 = .ok (.istore_n 2, 1) := bdX7_think_0 (12, .istore_n 2, 1) (List.mem_of_getElem? (i := 6) rfl)
theorem dX7_think_13 : decode cX7_think 13 = .ok (.iload_n 2, 1) := bdX7_think_0 (13, .iload_n 2, 1) (List.mem_of_getElem? (i := 7) rfl)
theorem dX7_think_14 : decode cX7_think 14 = .ok (.iload_n 1, 1) := bdX7_think_0 (14, .iload_n 1, 1) (List.mem_of_getElem? (i := 8) rfl)
theorem dX7_think_15 : decode cX7_think 15 = .ok (.if_icmp .ge 17, 3) := bdX7_think_0 (15, .if_icmp .ge 17, 3) (List.mem_of_getElem? (i := 9) rfl)
theorem dX7_think_18 : decode cX7_think 18 = .ok (.aload_n 0, 1) := bdX7_think_0 (18, .aload_n 0, 1) (List.mem_of_getElem? (i := 10) rfl)
theorem dX7_think_19 : decode cX7_think 19 = .ok (.getfield 23, 3) := bdX7_think_0 (19, .getfield 23, 3) (List.mem_of_getElem? (i := 11) rfl)
theorem dX7_think_22 : decode cX7_think 22 = .ok (.invokevirtual 146, 3) := bdX7_think_0 (22, .invokevirtual 146, 3) (List.mem_of_getElem? (i := 12) rfl)
theorem dX7_think_25 : decode cX7_think 25 = .ok (.pop, 1) := bdX7_think_0 (25, .pop, 1) (List.mem_of_getElem? (i := 13) rfl)
theorem dX7_think_26 : decode cX7_think 26 = .ok (.iinc 2 1, 3) := bdX7_think_0 (26, .iinc 2 1, 3) (List.mem_of_getElem? (i := 14) rfl)
theorem dX7_think_29 : decode cX7_think 29 = .ok (.goto (-16), 3) := bdX7_think_0 (29, .goto (-16), 3) (List.mem_of_getElem? (i := 15) rfl)
theorem dX7_think_32 : decode cX7_think 32 = .ok (.return_, 1) := bdX7_think_0 (32, .return_, 1) (List.mem_of_getElem? (i := 16) rfl)
theorem fX7_23 : fldOK RX7 23 7 3 (.object "LionShield$Land") true := ⟨_, _, _, tyX7, ⟨rfl, iX7, by decide, rfl, by decide⟩, tw_288, ⟨tyX7_ok, nmX7⟩, by decide +kernel, rfl, rfl⟩
theorem kX7_146 : mthV RX7 146 0 yX0_passYear prog_2_method_9_code 2 (Option.some Jvm.ClassFile.FieldType.boolean) 0 := ⟨⟨⟨tw_473, tw_61, tw_476⟩, rfl, by decide +kernel⟩, tw_474, tw_475, rfl⟩
theorem fX7_10 : fldOK RX7 10 7 0 (.object "LionShield$Land") true := ⟨_, _, _, tyX7, ⟨rfl, iX7, by decide, rfl, by decide⟩, tw_285, ⟨tyX7_ok, nmX7⟩, by decide +kernel, rfl, rfl⟩
theorem kX7_181 : mthV RX7 181 0 yX0_become prog_2_method_2_code 3 (Option.none : Option Jvm.ClassFile.FieldType) 1 := ⟨⟨⟨tw_544, tw_61, tw_547⟩, rfl, by decide +kernel⟩, tw_545, tw_546, rfl⟩
def LX7_think_13 (ln : Nat → Nat) (post : HC → Prop) : Nat → HC → Nat → Int32 → Int32 → Prop
  | 0 => fun _ _ _ _ => False
  | n13 + 1 => fun S x0 x1 x2 => if x1 ≤ x2 then (post S) else (dn_ (hR S x0 3) fun b1 => wpX0_passYear ln S b1 fun z2 S => lt_ (x2 + (1 : Int32)) fun z3 => (LX7_think_13 ln post n13) S x0 x1 z3)
def wpX7_think (ln : Nat → Nat) (S : HC) (a0 : Nat) (a1 : Int32) (post : HC → Prop) : Prop := dn_ (hR S a0 3) fun b4 => dn_ (hR S a0 0) fun b5 => wpX0_become ln S b4 b5 fun S => ∃ n13, LX7_think_13 ln post n13 S a0 a1 (0 : Int32)
abbrev rmX7_think : Room := { frames := 4, cells := 0, slots := 0, locals := 93 }
set_option maxHeartbeats 4000000 in
set_option maxRecDepth 100000 in
theorem ctX7_think {l : Launch} {g : GX} {N : Nat} {ln : Nat → Nat} {S : HC} {a0 : Nat} {a1 : Int32} {post : HC → Prop} (hr_a0 : a0 < N) (hk_a0 : kd a0 = 7) (h : wpX7_think ln S a0 a1 post) : Met l yX7_think (Cond.code yX7_think prog_1_method_43_code 3 (Option.none : Option Jvm.ClassFile.FieldType) :: gtbl) rmX7_think (va_Pc [.ref (gz g + a0), .int a1] (AtP g N ln S)) (QV g N ln post) 0 0 (gF g) := by
  refine m_of (by decide) (Nat.le_of_ble_eq_true rfl) ?_
  intro p e s m below meth c ls F hr I hl
  have hl : lv_has ls 3 [(0, .ref (gz g + a0)), (1, .int a1)] := hl
  unfold wpX7_think at h
  have hl_13 : ∀ n13 : Nat, ∀ (S : HC) (H : Heap) (locs : List Loc) (ls : Array Slot) (x0 : Nat) (x1 : Int32) (x2 : Int32), x0 < N → kd x0 = 7 → LX7_think_13 ln post n13 S x0 x1 x2 → Inv g N ln S s H locs → lv_has ls 3 [(0, .ref (gz g + x0)), (1, .int x1), (2, .int x2)] → W p l e rmX7_think s m ([.ref (gz g + a0), .int a1] : List Value).toArray below meth c H locs 0 0 (MQ below (QV g N ln post) ([.ref (gz g + a0), .int a1] : List Value).toArray s 0 0 (gF g)) (F0 m 13 ls []) := by
    intro n13
    induction n13 with
    | zero =>
      intro S H locs ls x0 x1 x2 hr_x0 hk_x0 h I hl
      exact h.elim
    | succ n13 ih =>
      have hk13 := ih
      intro S H locs ls x0 x1 x2 hr_x0 hk_x0 h I hl
      rw [LX7_think_13] at h
      refine lv_iload_n F.1 F.2.1 dX7_think_13 rfl (lv_at hl 2 rfl) ?_
      refine lv_iload_n F.1 F.2.1 dX7_think_14 rfl (lv_at hl 1 rfl) ?_
      refine r_icmp_ge (tgt := 32) F dX7_think_15 (by decide) h (fun h => ?_) (fun h => ?_)
      · exact r_vreturn F I ⟨hr.1, hr.2.1, trivial⟩ h dX7_think_32
      · refine lv_aload_n F.1 F.2.1 dX7_think_18 rfl (lv_at hl 0 rfl) ?_
        refine r_getN F I hr_x0 hk_x0 fX7_23 (f := 0) rfl (by decide) dX7_think_19 h (fun b1 hr_b1 hk_b1 h => ?_)
        refine g_I I (run_V (As := []) (rest := []) F I hr_b1 hk_b1 (by decide) kX7_146 (ctX0_passYear hr_b1 hk_b1 h) ⟨rfl, rfl⟩ ⟨Nat.le_of_ble_eq_true rfl, Nat.le_of_ble_eq_true rfl⟩ rfl hl.1 rfl (Nat.le_of_ble_eq_true rfl) ⟨Nat.le_of_ble_eq_true rfl, Nat.le_of_ble_eq_true rfl⟩ dX7_think_22) (fun z2 S H locs I h => ?_)
        refine lv_pop F.1 F.2.1 dX7_think_25 rfl ?_
        obtain ⟨z3, e_z3, h⟩ := lt_x h
        refine lv_iinc (v := z3) (lv' := [(2, .int z3), (0, .ref (gz g + x0)), (1, .int x1)]) F.1 F.2.1 dX7_think_26 hl (k := 2) rfl (by rw [e_z3]; rfl) (by decide) rfl (fun ls hl => ?_)
        refine lv_goto (tgt := 13) F.1 F.2.1 dX7_think_29 (by decide) ?_
        exact hk13 S _ _ _ x0 x1 z3 hr_x0 hk_x0 h I (lv_sub hl [1, 2, 0] rfl)
  refine lv_aload_n F.1 F.2.1 dX7_think_0 rfl (lv_at hl 0 rfl) ?_
  refine r_getN F I hr_a0 hk_a0 fX7_23 (f := 0) rfl (by decide) dX7_think_1 h (fun b4 hr_b4 hk_b4 h => ?_)
  refine lv_aload_n F.1 F.2.1 dX7_think_4 rfl (lv_at hl 0 rfl) ?_
  refine r_getN F I hr_a0 hk_a0 fX7_10 (f := 0) rfl (by decide) dX7_think_5 h (fun b5 hr_b5 hk_b5 h => ?_)
  refine g_V I (run_V (As := [.ref (gz g + b5)]) (rest := []) F I hr_b4 hk_b4 (by decide) kX7_181 (ctX0_become hr_b4 hk_b4 hr_b5 hk_b5 h) ⟨rfl, rfl⟩ ⟨Nat.le_of_ble_eq_true rfl, Nat.le_of_ble_eq_true rfl⟩ rfl hl.1 rfl (Nat.le_of_ble_eq_true rfl) ⟨Nat.le_of_ble_eq_true rfl, Nat.le_of_ble_eq_true rfl⟩ dX7_think_8) (fun S H locs I h => ?_)
  refine lv_iconst (v := 0) F.1 F.2.1 dX7_think_11 (by decide) ?_
  refine lv_istore_n (lv' := [(2, .int (0 : Int32)), (0, .ref (gz g + a0)), (1, .int a1)]) F.1 F.2.1 dX7_think_12 rfl hl (by decide) rfl (fun ls hl => ?_)
  obtain ⟨n13, h⟩ := h
  exact hl_13 n13 S _ _ _ a0 a1 (0 : Int32) hr_a0 hk_a0 h I (lv_sub hl [1, 2, 0] rfl)
theorem bdX7_allBear_0 : ∀ q ∈ ([(0, .aload_n 0, 1), (1, .getfield 29, 3), (4, .aload_n 1, 1), (5, .invokevirtual 114, 3), (8, .aload_n 0, 1), (9, .getfield 29, 3), (12, .iload_n 2, 1), (13, .invokevirtual 118, 3), (16, .aload_n 0, 1), (17, .getfield 29, 3), (20, .iload_n 2, 1), (21, .invokevirtual 319, 3), (24, .ireturn, 1)] : List (Nat × Jvm.ClassFile.Instr × Nat)), decode cX7_allBear q.1 = .ok q.2 := chk_ok _ 0 _ rfl (by decide +kernel)
theorem dX7_allBear_0 : decode cX7_allBear 0 = .ok (.aload_n 0, 1) := bdX7_allBear_0 (0, .aload_n 0, 1) (List.mem_of_getElem? (i := 0) rfl)
theorem dX7_allBear_1 : decode cX7_allBear 1 = .ok (.getfield 29, 3) := bdX7_allBear_0 (1, .getfield 29, 3) (List.mem_of_getElem? (i := 1) rfl)
theorem dX7_allBear_4 : decode cX7_allBear 4 = .ok (.aload_n 1, 1) := bdX7_allBear_0 (4, .aload_n 1, 1) (List.mem_of_getElem? (i := 2) rfl)
theorem dX7_allBear_5 : decode cX7_allBear 5 = .ok (.invokevirtual 114, 3) := bdX7_allBear_0 (5, .invokevirtual 114, 3) (List.mem_of_getElem? (i := 3) rfl)
theorem dX7_allBear_8 : decode cX7_allBear 8 = .ok (.aload_n 0, 1) := bdX7_allBear_0 (8, .aload_n 0, 1) (List.mem_of_getElem? (i := 4) rfl)
theorem dX7_allBear_9 : decode cX7_allBear 9 = .ok (.getfield 29, 3) := bdX7_allBear_0 (9, .getfield 29, 3) (List.mem_of_getElem? (i := 5) rfl)
theorem dX7_allBear_12 : decode cX7_allBear 12 = .ok (.iload_n 2, 1) := bdX7_allBear_0 (12, .iload_n 2, 1) (List.mem_of_getElem? (i := 6) rfl)
theorem dX7_allBear_13 : decode cX7_allBear 13 = .ok (.invokevirtual 118, 3) := bdX7_allBear_0 (13, .invokevirtual 118, 3) (List.mem_of_getElem? (i := 7) rfl)
theorem dX7_allBear_16 : decode cX7_allBear 16 = .ok (.aload_n 0, 1) := bdX7_allBear_0 (16, .aload_n 0, 1) (List.mem_of_getElem? (i := 8) rfl)
theorem dX7_allBear_17 : decode cX7_allBear 17 = .ok (.getfield 29, 3) := bdX7_allBear_0 (17, .getfield 29, 3) (List.mem_of_getElem? (i := 9) rfl)
theorem dX7_allBear_20 : decode cX7_allBear 20 = .ok (.iload_n 2, 1) := bdX7_allBear_0 (20, .iload_n 2, 1) (List.mem_of_getElem? (i := 10) rfl)
theorem dX7_allBear_21 : decode cX7_allBear 21 = .ok (.invokevirtual 319, 3) := bdX7_allBear_0 (21, .invokevirtual 319, 3) (List.mem_of_getElem? (i := 11) rfl)
theorem dX7_allBear_24 : decode cX7_allBear 24 = .ok (.ireturn, 1) := bdX7_allBear_0 (24, .ireturn, 1) (List.mem_of_getElem? (i := 12) rfl)
theorem fX7_29 : fldOK RX7 29 7 4 (.object "LionShield$Shields") true := ⟨_, _, _, tyX7, ⟨rfl, iX7, by decide, rfl, by decide⟩, tw_289, ⟨tyX7_ok, nmX7⟩, by decide +kernel, rfl, rfl⟩
theorem kX7_114 : mthV RX7 114 4 yX4_lookAt prog_6_method_2_code 2 (Option.none : Option Jvm.ClassFile.FieldType) 1 := ⟨⟨⟨tw_365, tw_62, tw_368⟩, rfl, by decide +kernel⟩, tw_366, tw_367, rfl⟩
theorem kX7_118 : mthV RX7 118 4 yX4_workOut prog_6_method_4_code 3 (Option.none : Option Jvm.ClassFile.FieldType) 1 := ⟨⟨⟨tw_385, tw_62, tw_388⟩, rfl, by decide +kernel⟩, tw_386, tw_387, rfl⟩
theorem kX7_319 : mthV RX7 319 4 yX4_together prog_6_method_12_code 4 (Option.some Jvm.ClassFile.FieldType.int) 1 := ⟨⟨⟨tw_564, tw_62, tw_567⟩, rfl, by decide +kernel⟩, tw_565, tw_566, rfl⟩
def wpX7_allBear (ln : Nat → Nat) (S : HC) (a0 : Nat) (a1 : Nat) (a2 : Int32) (post : Int32 → HC → Prop) : Prop := dn_ (hR S a0 4) fun b1 => wpX4_lookAt ln S b1 a1 fun S => dn_ (hR S a0 4) fun b2 => wpX4_workOut ln S b2 a2 fun S => dn_ (hR S a0 4) fun b3 => wpX4_together ln S b3 a2 fun z4 S => post z4 S
abbrev rmX7_allBear : Room := { frames := 5, cells := 0, slots := 0, locals := 121 }
set_option maxHeartbeats 4000000 in
set_option maxRecDepth 100000 in
theorem ctX7_allBear {l : Launch} {g : GX} {N : Nat} {ln : Nat → Nat} {S : HC} {a0 : Nat} {a1 : Nat} {a2 : Int32} {post : Int32 → HC → Prop} (hr_a0 : a0 < N) (hk_a0 : kd a0 = 7) (hr_a1 : a1 < N) (hk_a1 : kd a1 = 0) (h : wpX7_allBear ln S a0 a1 a2 post) : Met l yX7_allBear (Cond.code yX7_allBear prog_1_method_44_code 3 (Option.some Jvm.ClassFile.FieldType.int) :: gtbl) rmX7_allBear (va_Pc [.ref (gz g + a0), .ref (gz g + a1), .int a2] (AtP g N ln S)) (QI g N ln post) 0 0 (gF g) := by
  refine m_of (by decide) (Nat.le_of_ble_eq_true rfl) ?_
  intro p e s m below meth c ls F hr I hl
  have hl : lv_has ls 3 [(0, .ref (gz g + a0)), (1, .ref (gz g + a1)), (2, .int a2)] := hl
  unfold wpX7_allBear at h
  refine lv_aload_n F.1 F.2.1 dX7_allBear_0 rfl (lv_at hl 0 rfl) ?_
  refine r_getN F I hr_a0 hk_a0 fX7_29 (f := 4) rfl (by decide) dX7_allBear_1 h (fun b1 hr_b1 hk_b1 h => ?_)
  refine lv_aload_n F.1 F.2.1 dX7_allBear_4 rfl (lv_at hl 1 rfl) ?_
  refine g_V I (run_V (As := [.ref (gz g + a1)]) (rest := []) F I hr_b1 hk_b1 (by decide) kX7_114 (ctX4_lookAt hr_b1 hk_b1 hr_a1 hk_a1 h) ⟨rfl, rfl⟩ ⟨Nat.le_of_ble_eq_true rfl, Nat.le_of_ble_eq_true rfl⟩ rfl hl.1 rfl (Nat.le_of_ble_eq_true rfl) ⟨Nat.le_of_ble_eq_true rfl, Nat.le_of_ble_eq_true rfl⟩ dX7_allBear_5) (fun S H locs I h => ?_)
  refine lv_aload_n F.1 F.2.1 dX7_allBear_8 rfl (lv_at hl 0 rfl) ?_
  refine r_getN F I hr_a0 hk_a0 fX7_29 (f := 4) rfl (by decide) dX7_allBear_9 h (fun b2 hr_b2 hk_b2 h => ?_)
  refine lv_iload_n F.1 F.2.1 dX7_allBear_12 rfl (lv_at hl 2 rfl) ?_
  refine g_V I (run_V (As := [.int a2]) (rest := []) F I hr_b2 hk_b2 (by decide) kX7_118 (ctX4_workOut hr_b2 hk_b2 h) ⟨rfl, rfl⟩ ⟨Nat.le_of_ble_eq_true rfl, Nat.le_of_ble_eq_true rfl⟩ rfl hl.1 rfl (Nat.le_of_ble_eq_true rfl) ⟨Nat.le_of_ble_eq_true rfl, Nat.le_of_ble_eq_true rfl⟩ dX7_allBear_13) (fun S H locs I h => ?_)
  refine lv_aload_n F.1 F.2.1 dX7_allBear_16 rfl (lv_at hl 0 rfl) ?_
  refine r_getN F I hr_a0 hk_a0 fX7_29 (f := 4) rfl (by decide) dX7_allBear_17 h (fun b3 hr_b3 hk_b3 h => ?_)
  refine lv_iload_n F.1 F.2.1 dX7_allBear_20 rfl (lv_at hl 2 rfl) ?_
  refine g_I I (run_V (As := [.int a2]) (rest := []) F I hr_b3 hk_b3 (by decide) kX7_319 (ctX4_together hr_b3 hk_b3 h) ⟨rfl, rfl⟩ ⟨Nat.le_of_ble_eq_true rfl, Nat.le_of_ble_eq_true rfl⟩ rfl hl.1 rfl (Nat.le_of_ble_eq_true rfl) ⟨Nat.le_of_ble_eq_true rfl, Nat.le_of_ble_eq_true rfl⟩ dX7_allBear_21) (fun z4 S H locs I h => ?_)
  exact r_ireturn F I ⟨hr.1, hr.2.1, trivial⟩ h dX7_allBear_24
theorem bdX7_repaintThought_0 : ∀ q ∈ ([(0, .aload_n 0, 1), (1, .getfield 23, 3), (4, .getfield 101, 3), (7, .iload_n 1, 1), (8, .iaload, 1), (9, .istore_n 3, 1), (10, .iload_n 3, 1), (11, .iload_n 2, 1), (12, .if_icmp .eq 29, 3), (15, .aload_n 0, 1), (16, .getfield 23, 3), (19, .getfield 101, 3), (22, .iload_n 1, 1), (23, .iload_n 2, 1), (24, .iastore, 1), (25, .aload_n 0, 1), (26, .getfield 29, 3), (29, .iload_n 3, 1), (30, .invokevirtual 118, 3), (33, .aload_n 0, 1), (34, .getfield 29, 3), (37, .iload_n 2, 1), (38, .invokevirtual 118, 3), (41, .return_, 1)] : List (Nat × Jvm.ClassFile.Instr × Nat)), decode cX7_repaintThought q.1 = .ok q.2 := chk_ok _ 0 _ rfl (by decide +kernel)
theorem dX7_repaintThought_0 : decode cX7_repaintThought 0 = .ok (.aload_n 0, 1) := bdX7_repaintThought_0 (0, .aload_n 0, 1) (List.mem_of_getElem? (i := 0) rfl)
theorem dX7_repaintThought_1 : decode cX7_repaintThought 1 = .ok (.getfield 23, 3) := bdX7_repaintThought_0 (1, .getfield 23, 3) (List.mem_of_getElem? (i := 1) rfl)
theorem dX7_repaintThought_4 : decode cX7_repaintThought 4 = .ok (.getfield 101, 3) := bdX7_repaintThought_0 (4, .getfield 101, 3) (List.mem_of_getElem? (i := 2) rfl)
theorem dX7_repaintThought_7 : decode cX7_repaintThought 7 = .ok (.iload_n 1, 1) := bdX7_repaintThought_0 (7, .iload_n 1, 1) (List.mem_of_getElem? (i := 3) rfl)
theorem dX7_repaintThought_8 : decode cX7_repaintThought 8 = .ok (.iaload, 1) := bdX7_repaintThought_0 (8, .iaload, 1) (List.mem_of_getElem? (i := 4) rfl)
theorem dX7_repaintThought_9 : decode cX7_repaintThought 9 = .ok (.istore_n 3, 1) := bdX7_repaintThought_0 (9, .istore_n 3, 1) (List.mem_of_getElem? (i := 5) rfl)
theorem dX7_repaintThought_10 : decode cX7_repaintThought 10 = .ok (.iload_n 3, 1) := bdX7_repaintThought_0 (10, .iload_n 3, 1) (List.mem_of_getElem? (i := 6) rfl)
theorem dX7_repaintThought_11 : decode cX7_repaintThought 11 = .ok (.iload_n 2, 1) := bdX7_repaintThought_0 (11, .iload_n 2, 1) (List.mem_of_getElem? (i := 7) rfl)
theorem dX7_repaintThought_12 : decode cX7_repaintThought 12 = .ok (.if_icmp .eq 29, 3) := bdX7_repaintThought_0 (12, .if_icmp .eq 29, 3) (List.mem_of_getElem? (i := 8) rfl)
theorem dX7_repaintThought_15 : decode cX7_repaintThought 15 = .ok (.aload_n 0, 1) := bdX7_repaintThought_0 (15, .aload_n 0, 1) (List.mem_of_getElem? (i := 9) rfl)
theorem dX7_repaintThought_16 : decode cX7_repaintThought 16 = .ok (.getfield 23, 3) := bdX7_repaintThought_0 (16, .getfield 23, 3) (List.mem_of_getElem? (i := 10) rfl)
theorem dX7_repaintThought_19 : decode cX7_repaintThought 19 = .ok (.getfield 101, 3) := bdX7_repaintThought_0 (19, .getfield 101, 3) (List.mem_of_getElem? (i := 11) rfl)
theorem dX7_repaintThought_22 : decode cX7_repaintThought 22 = .ok (.iload_n 1, 1) := bdX7_repaintThought_0 (22, .iload_n 1, 1) (List.mem_of_getElem? (i := 12) rfl)
theorem dX7_repaintThought_23 : decode cX7_repaintThought 23 = .ok (.iload_n 2, 1) := bdX7_repaintThought_0 (23, .iload_n 2, 1) (List.mem_of_getElem? (i := 13) rfl)
theorem dX7_repaintThought_24 : decode cX7_repaintThought 24 = .ok (.iastore, 1) := bdX7_repaintThought_0 (24, .iastore, 1) (List.mem_of_getElem? (i := 14) rfl)
theorem dX7_repaintThought_25 : decode cX7_repaintThought 25 = .ok (.aload_n 0, 1) := bdX7_repaintThought_0 (25, .aload_n 0, 1) (List.mem_of_getElem? (i := 15) rfl)
theorem dX7_repaintThought_26 : decode cX7_repaintThought 26 = .ok (.getfield 29, 3) := bdX7_repaintThought_0 (26, .getfield 29, 3) (List.mem_of_getElem? (i := 16) rfl)
theorem dX7_repaintThought_29 : decode cX7_repaintThought 29 = .ok (.iload_n 3, 1) := bdX7_repaintThought_0 (29, .iload_n 3, 1) (List.mem_of_getElem? (i := 17) rfl)
theorem dX7_repaintThought_30 : decode cX7_repaintThought 30 = .ok (.invokevirtual 118, 3) := bdX7_repaintThought_0 (30, .invokevirtual 118, 3) (List.mem_of_getElem? (i := 18) rfl)
theorem dX7_repaintThought_33 : decode cX7_repaintThought 33 = .ok (.aload_n 0, 1) := bdX7_repaintThought_0 (33, .aload_n 0, 1) (List.mem_of_getElem? (i := 19) rfl)
theorem dX7_repaintThought_34 : decode cX7_repaintThought 34 = .ok (.getfield 29, 3) := bdX7_repaintThought_0 (34, .getfield 29, 3) (List.mem_of_getElem? (i := 20) rfl)
theorem dX7_repaintThought_37 : decode cX7_repaintThought 37 = .ok (.iload_n 2, 1) := bdX7_repaintThought_0 (37, .iload_n 2, 1) (List.mem_of_getElem? (i := 21) rfl)
theorem dX7_repaintThought_38 : decode cX7_repaintThought 38 = .ok (.invokevirtual 118, 3) := bdX7_repaintThought_0 (38, .invokevirtual 118, 3) (List.mem_of_getElem? (i := 22) rfl)
theorem dX7_repaintThought_41 : decode cX7_repaintThought 41 = .ok (.return_, 1) := bdX7_repaintThought_0 (41, .return_, 1) (List.mem_of_getElem? (i := 23) rfl)
theorem fX7_101 : fldOK RX7 101 0 4 (.array .int) true := ⟨_, _, _, tyX0, ⟨rfl, iX0, by decide, rfl, by decide⟩, tw_105, ⟨tyX0_ok, nmX0⟩, by decide +kernel, rfl, rfl⟩
def wpX7_repaintThought (ln : Nat → Nat) (S : HC) (a0 : Nat) (a1 : Int32) (a2 : Int32) (post : HC → Prop) : Prop := dn_ (hR S a0 3) fun b1 => dn_ (hR S b1 4) fun b2 => al_ (ln b2) a1 (hI S b2) fun z3 => if z3 = a2 then (post S) else (dn_ (hR S a0 3) fun b4 => dn_ (hR S b4 4) fun b5 => as_ (ln b5) a1 (fun j => sI S b5 j a2) fun S => dn_ (hR S a0 4) fun b6 => wpX4_workOut ln S b6 z3 fun S => dn_ (hR S a0 4) fun b7 => wpX4_workOut ln S b7 a2 fun S => post S)
abbrev rmX7_repaintThought : Room := { frames := 5, cells := 0, slots := 0, locals := 121 }
set_option maxHeartbeats 4000000 in
set_option maxRecDepth 100000 in
theorem ctX7_repaintThought {l : Launch} {g : GX} {N : Nat} {ln : Nat → Nat} {S : HC} {a0 : Nat} {a1 : Int32} {a2 : Int32} {post : HC → Prop} (hr_a0 : a0 < N) (hk_a0 : kd a0 = 7) (h : wpX7_repaintThought ln S a0 a1 a2 post) : Met l yX7_repaintThought (Cond.code yX7_repaintThought prog_1_method_45_code 4 (Option.none : Option Jvm.ClassFile.FieldType) :: gtbl) rmX7_repaintThought (va_Pc [.ref (gz g + a0), .int a1, .int a2] (AtP g N ln S)) (QV g N ln post) 0 0 (gF g) := by
  refine m_of (by decide) (Nat.le_of_ble_eq_true rfl) ?_
  intro p e s m below meth c ls F hr I hl
  have hl : lv_has ls 4 [(0, .ref (gz g + a0)), (1, .int a1), (2, .int a2)] := hl
  unfold wpX7_repaintThought at h
  refine lv_aload_n F.1 F.2.1 dX7_repaintThought_0 rfl (lv_at hl 0 rfl) ?_
  refine r_getN F I hr_a0 hk_a0 fX7_23 (f := 0) rfl (by decide) dX7_repaintThought_1 h (fun b1 hr_b1 hk_b1 h => ?_)
  refine r_getN F I hr_b1 hk_b1 fX7_101 (f := 9) rfl (by decide) dX7_repaintThought_4 h (fun b2 hr_b2 hk_b2 h => ?_)
  refine lv_iload_n F.1 F.2.1 dX7_repaintThought_7 rfl (lv_at hl 1 rfl) ?_
  refine r_ald F I hr_b2 hk_b2 dX7_repaintThought_8 h (fun z3 h => ?_)
  refine lv_istore_n (lv' := [(3, .int z3), (0, .ref (gz g + a0)), (1, .int a1), (2, .int a2)]) F.1 F.2.1 dX7_repaintThought_9 rfl hl (by decide) rfl (fun ls hl => ?_)
  refine lv_iload_n F.1 F.2.1 dX7_repaintThought_10 rfl (lv_at hl 0 rfl) ?_
  refine lv_iload_n F.1 F.2.1 dX7_repaintThought_11 rfl (lv_at hl 3 rfl) ?_
  refine r_icmp_eq (tgt := 41) F dX7_repaintThought_12 (by decide) h (fun h => ?_) (fun h => ?_)
  · exact r_vreturn F I ⟨hr.1, hr.2.1, trivial⟩ h dX7_repaintThought_41
  · refine lv_aload_n F.1 F.2.1 dX7_repaintThought_15 rfl (lv_at hl 1 rfl) ?_
    refine r_getN F I hr_a0 hk_a0 fX7_23 (f := 0) rfl (by decide) dX7_repaintThought_16 h (fun b4 hr_b4 hk_b4 h => ?_)
    refine r_getN F I hr_b4 hk_b4 fX7_101 (f := 9) rfl (by decide) dX7_repaintThought_19 h (fun b5 hr_b5 hk_b5 h => ?_)
    refine lv_iload_n F.1 F.2.1 dX7_repaintThought_22 rfl (lv_at hl 2 rfl) ?_
    refine lv_iload_n F.1 F.2.1 dX7_repaintThought_23 rfl (lv_at hl 3 rfl) ?_
    refine r_ast F I hr_b5 hk_b5 dX7_repaintThought_24 h (fun S H locs I h => ?_)
    refine lv_aload_n F.1 F.2.1 dX7_repaintThought_25 rfl (lv_at hl 1 rfl) ?_
    refine r_getN F I hr_a0 hk_a0 fX7_29 (f := 4) rfl (by decide) dX7_repaintThought_26 h (fun b6 hr_b6 hk_b6 h => ?_)
    refine lv_iload_n F.1 F.2.1 dX7_repaintThought_29 rfl (lv_at hl 0 rfl) ?_
    refine g_V I (run_V (As := [.int z3]) (rest := []) F I hr_b6 hk_b6 (by decide) kX7_118 (ctX4_workOut hr_b6 hk_b6 h) ⟨rfl, rfl⟩ ⟨Nat.le_of_ble_eq_true rfl, Nat.le_of_ble_eq_true rfl⟩ rfl hl.1 rfl (Nat.le_of_ble_eq_true rfl) ⟨Nat.le_of_ble_eq_true rfl, Nat.le_of_ble_eq_true rfl⟩ dX7_repaintThought_30) (fun S H locs I h => ?_)
    refine lv_aload_n F.1 F.2.1 dX7_repaintThought_33 rfl (lv_at hl 1 rfl) ?_
    refine r_getN F I hr_a0 hk_a0 fX7_29 (f := 4) rfl (by decide) dX7_repaintThought_34 h (fun b7 hr_b7 hk_b7 h => ?_)
    refine lv_iload_n F.1 F.2.1 dX7_repaintThought_37 rfl (lv_at hl 3 rfl) ?_
    refine g_V I (run_V (As := [.int a2]) (rest := []) F I hr_b7 hk_b7 (by decide) kX7_118 (ctX4_workOut hr_b7 hk_b7 h) ⟨rfl, rfl⟩ ⟨Nat.le_of_ble_eq_true rfl, Nat.le_of_ble_eq_true rfl⟩ rfl hl.1 rfl (Nat.le_of_ble_eq_true rfl) ⟨Nat.le_of_ble_eq_true rfl, Nat.le_of_ble_eq_true rfl⟩ dX7_repaintThought_38) (fun S H locs I h => ?_)
    exact r_vreturn F I ⟨hr.1, hr.2.1, trivial⟩ h dX7_repaintThought_41
theorem bdX7_isWaiting_0 : ∀ q ∈ ([(0, .iload_n 1, 1), (1, .ifCond .lt 28, 3), (4, .iload_n 1, 1), (5, .iload_n 2, 1), (6, .if_icmp .ge 23, 3), (9, .iload_n 1, 1), (10, .bipush 60, 2), (12, .if_icmp .ge 17, 3), (15, .aload_n 0, 1), (16, .getfield 52, 3), (19, .iload_n 1, 1), (20, .iaload, 1), (21, .iload_n 3, 1), (22, .if_icmp .ne 7, 3), (25, .iconst 1, 1), (26, .goto 4, 3), (29, .iconst 0, 1), (30, .ireturn, 1)] : List (Nat × Jvm.ClassFile.Instr × Nat)), decode cX7_isWaiting q.1 = .ok q.2 := chk_ok _ 0 _ rfl (by decide +kernel)
theorem dX7_isWaiting_0 : decode cX7_isWaiting 0 = .ok (.iload_n 1, 1) := bdX7_isWaiting_0 (0, .iload_n 1, 1) (List.mem_of_getElem? (i := 0) rfl)
theorem dX7_isWaiting_1 : decode cX7_isWaiting 1 = .ok (.ifCond .lt 28, 3) := bdX7_isWaiting_0 (1, .ifCond .lt 28, 3) (List.mem_of_getElem? (i := 1) rfl)
theorem dX7_isWaiting_4 : decode cX7_isWaiting 4 = .ok (.iload_n 1, 1) := bdX7_isWaiting_0 (4, .iload_n 1, 1) (List.mem_of_getElem? (i := 2) rfl)
theorem dX7_isWaiting_5 : decode cX7_isWaiting 5 = .ok (.iload_n 2, 1) := bdX7_isWaiting_0 (5, .iload_n 2, 1) (List.mem_of_getElem? (i := 3) rfl)
theorem dX7_isWaiting_6 : decode cX7_isWaiting 6 = .ok (.if_icmp .ge 23, 3) := bdX7_isWaiting_0 (6, .if_icmp .ge 23, 3) (List.mem_of_getElem? (i := 4) rfl)
theorem dX7_isWaiting_9 : decode cX7_isWaiting 9 = .ok (.iload_n 1, 1) := bdX7_isWaiting_0 (9, .iload_n 1, 1) (List.mem_of_getElem? (i := 5) rfl)
theorem dX7_isWaiting_10 : decode cX7_isWaiting 10 = .ok (.bipush 60, 2) := bdX7_isWaiting_0 (10, .bipush 60, 2) (List.mem_of_getElem? (i := 6) rfl)
theorem dX7_isWaiting_12 : decode cX7_isWaiting 12 = .ok (.if_icmp .ge 17, 3) := bdX7_isWaiting_0 (12, .if_icmp .ge 17, 3) (List.mem_of_getElem? (i := 7) rfl)
theorem dX7_isWaiting_15 : decode cX7_isWaiting 15 = .ok (.aload_n 0, 1) := bdX7_isWaiting_0 (15, .aload_n 0, 1) (List.mem_of_getElem? (i := 8) rfl)
theorem dX7_isWaiting_16 : decode cX7_isWaiting 16 = .ok (.getfield 52, 3) := bdX7_isWaiting_0 (16, .getfield 52, 3) (List.mem_of_getElem? (i := 9) rfl)
theorem dX7_isWaiting_19 : decode cX7_isWaiting 19 = .ok (.iload_n 1, 1) := bdX7_isWaiting_0 (19, .iload_n 1, 1) (List.mem_of_getElem? (i := 10) rfl)
theorem dX7_isWaiting_20 : decode cX7_isWaiting 20 = .ok (.iaload, 1) := bdX7_isWaiting_0 (20, .iaload, 1) (List.mem_of_getElem? (i := 11) rfl)
theorem dX7_isWaiting_21 : decode cX7_isWaiting 21 = .ok (.iload_n 3, 1) := bdX7_isWaiting_0 (21, .iload_n 3, 1) (List.mem_of_getElem? (i := 12) rfl)
theorem dX7_isWaiting_22 : decode cX7_isWaiting 22 = .ok (.if_icmp .ne 7, 3) := bdX7_isWaiting_0 (22, .if_icmp .ne 7, 3) (List.mem_of_getElem? (i := 13) rfl)
theorem dX7_isWaiting_25 : decode cX7_isWaiting 25 = .ok (.iconst 1, 1) := bdX7_isWaiting_0 (25, .iconst 1, 1) (List.mem_of_getElem? (i := 14) rfl)
theorem dX7_isWaiting_26 : decode cX7_isWaiting 26 = .ok (.goto 4, 3) := bdX7_isWaiting_0 (26, .goto 4, 3) (List.mem_of_getElem? (i := 15) rfl)
theorem dX7_isWaiting_29 : decode cX7_isWaiting 29 = .ok (.iconst 0, 1) := bdX7_isWaiting_0 (29, .iconst 0, 1) (List.mem_of_getElem? (i := 16) rfl)
theorem dX7_isWaiting_30 : decode cX7_isWaiting 30 = .ok (.ireturn, 1) := bdX7_isWaiting_0 (30, .ireturn, 1) (List.mem_of_getElem? (i := 17) rfl)
theorem fX7_52 : fldOK RX7 52 7 8 (.array .int) true := ⟨_, _, _, tyX7, ⟨rfl, iX7, by decide, rfl, by decide⟩, tw_293, ⟨tyX7_ok, nmX7⟩, by decide +kernel, rfl, rfl⟩
def BX7_isWaiting_29 (ln : Nat → Nat) (post : Int32 → HC → Prop) (S : HC)  : Prop := rb_ .boolean (0 : Int32) (post (0 : Int32) S)
def wpX7_isWaiting (ln : Nat → Nat) (S : HC) (a0 : Nat) (a1 : Int32) (a2 : Int32) (a3 : Int32) (post : Int32 → HC → Prop) : Prop := if a1 < 0 then (BX7_isWaiting_29 ln post S) else (if a2 ≤ a1 then (BX7_isWaiting_29 ln post S) else (if (60 : Int32) ≤ a1 then (BX7_isWaiting_29 ln post S) else (dn_ (hR S a0 8) fun b1 => al_ (ln b1) a1 (hI S b1) fun z2 => if z2 = a3 then (rb_ .boolean (1 : Int32) (post (1 : Int32) S)) else (BX7_isWaiting_29 ln post S))))
abbrev rmX7_isWaiting : Room := { frames := 0, cells := 0, slots := 0, locals := 0 }
set_option maxHeartbeats 4000000 in
set_option maxRecDepth 100000 in
theorem ctX7_isWaiting {l : Launch} {g : GX} {N : Nat} {ln : Nat → Nat} {S : HC} {a0 : Nat} {a1 : Int32} {a2 : Int32} {a3 : Int32} {post : Int32 → HC → Prop} (hr_a0 : a0 < N) (hk_a0 : kd a0 = 7) (h : wpX7_isWaiting ln S a0 a1 a2 a3 post) : Met l yX7_isWaiting (Cond.code yX7_isWaiting prog_1_method_46_code 4 (Option.some Jvm.ClassFile.FieldType.boolean) :: gtbl) rmX7_isWaiting (va_Pc [.ref (gz g + a0), .int a1, .int a2, .int a3] (AtP g N ln S)) (QI g N ln post) 0 0 (gF g) := by
  refine m_of (by decide) (Nat.le_of_ble_eq_true rfl) ?_
  intro p e s m below meth c ls F hr I hl
  have hl : lv_has ls 4 [(0, .ref (gz g + a0)), (1, .int a1), (2, .int a2), (3, .int a3)] := hl
  unfold wpX7_isWaiting at h
  have hj_29 : ∀ (S : HC) (H : Heap) (locs : List Loc) (ls : Array Slot), BX7_isWaiting_29 ln post S  → Inv g N ln S s H locs → lv_has ls 4 [] → W p l e rmX7_isWaiting s m ([.ref (gz g + a0), .int a1, .int a2, .int a3] : List Value).toArray below meth c H locs 0 0 (MQ below (QI g N ln post) ([.ref (gz g + a0), .int a1, .int a2, .int a3] : List Value).toArray s 0 0 (gF g)) (F0 m 29 ls []) := by
    intro S H locs ls h I hl
    unfold BX7_isWaiting_29 at h
    refine lv_iconst (v := 0) F.1 F.2.1 dX7_isWaiting_29 (by decide) ?_
    exact r_zreturn F I ⟨hr.1, hr.2.1, trivial⟩ h dX7_isWaiting_30
  refine lv_iload_n F.1 F.2.1 dX7_isWaiting_0 rfl (lv_at hl 1 rfl) ?_
  refine r_if_lt (tgt := 29) F dX7_isWaiting_1 (by decide) h (fun h => ?_) (fun h => ?_)
  · exact hj_29 S _ _ _   h I (lv_sub hl [] rfl)
  · refine lv_iload_n F.1 F.2.1 dX7_isWaiting_4 rfl (lv_at hl 1 rfl) ?_
    refine lv_iload_n F.1 F.2.1 dX7_isWaiting_5 rfl (lv_at hl 2 rfl) ?_
    refine r_icmp_ge (tgt := 29) F dX7_isWaiting_6 (by decide) h (fun h => ?_) (fun h => ?_)
    · exact hj_29 S _ _ _   h I (lv_sub hl [] rfl)
    · refine lv_iload_n F.1 F.2.1 dX7_isWaiting_9 rfl (lv_at hl 1 rfl) ?_
      refine lv_bipush (v := 60) F.1 F.2.1 dX7_isWaiting_10 (by decide) ?_
      refine r_icmp_ge (tgt := 29) F dX7_isWaiting_12 (by decide) h (fun h => ?_) (fun h => ?_)
      · exact hj_29 S _ _ _   h I (lv_sub hl [] rfl)
      · refine lv_aload_n F.1 F.2.1 dX7_isWaiting_15 rfl (lv_at hl 0 rfl) ?_
        refine r_getN F I hr_a0 hk_a0 fX7_52 (f := 9) rfl (by decide) dX7_isWaiting_16 h (fun b1 hr_b1 hk_b1 h => ?_)
        refine lv_iload_n F.1 F.2.1 dX7_isWaiting_19 rfl (lv_at hl 1 rfl) ?_
        refine r_ald F I hr_b1 hk_b1 dX7_isWaiting_20 h (fun z2 h => ?_)
        refine lv_iload_n F.1 F.2.1 dX7_isWaiting_21 rfl (lv_at hl 3 rfl) ?_
        refine r_icmp_ne (tgt := 29) F dX7_isWaiting_22 (by decide) h (fun h => ?_) (fun h => ?_)
        · exact hj_29 S _ _ _   h I (lv_sub hl [] rfl)
        · refine lv_iconst (v := 1) F.1 F.2.1 dX7_isWaiting_25 (by decide) ?_
          refine lv_goto (tgt := 30) F.1 F.2.1 dX7_isWaiting_26 (by decide) ?_
          exact r_zreturn F I ⟨hr.1, hr.2.1, trivial⟩ h dX7_isWaiting_30
theorem bdX7_person_0 : ∀ q ∈ ([(0, .iload_n 1, 1), (1, .invokestatic 65, 3), (4, .ifCond .eq 27, 3), (7, .aload_n 0, 1), (8, .getfield 10, 3), (11, .iload_n 2, 1), (12, .iconst 0, 1), (13, .invokevirtual 69, 3), (16, .ifCond .eq 15, 3), (19, .aload_n 0, 1), (20, .getfield 10, 3), (23, .iload_n 3, 1), (24, .iconst 1, 1), (25, .invokevirtual 69, 3), (28, .ifCond .ne 6, 3), (31, .ldc 73, 2), (33, .ireturn, 1), (34, .iload 4, 2), (36, .ifCond .lt 17, 3), (39, .iload 4, 2), (41, .iconst 1, 1), (42, .if_icmp .gt 11, 3), (45, .iload 5, 2), (47, .invokestatic 74, 3), (50, .ifCond .ne 6, 3), (53, .ldc 73, 2), (55, .ireturn, 1), (56, .aload_n 0, 1), (57, .getfield 10, 3), (60, .invokevirtual 77, 3), (63, .ifCond .ne 6, 3), (66, .ldc 81, 2), (68, .ireturn, 1), (69, .aload_n 0, 1), (70, .getfield 10, 3), (73, .iload_n 1, 1), (74, .iload_n 2, 1), (75, .iload_n 3, 1), (76, .iload 4, 2), (78, .iload 5, 2)] : List (Nat × Jvm.ClassFile.Instr × Nat)), decode cX7_person q.1 = .ok q.2 := chk_ok _ 0 _ rfl (by decide +kernel)
theorem dX7_person_0 : decode cX7_person 0 = .ok (.iload_n 1, 1) := bdX7_person_0 (0, .iload_n 1, 1) (List.mem_of_getElem? (i := 0) rfl)
theorem dX7_person_1 : decode cX7_person 1 = .ok (.invokestatic 65, 3) := bdX7_person_0 (1, .invokestatic 65, 3) (List.mem_of_getElem? (i := 1) rfl)
theorem dX7_person_4 : decode cX7_person 4 = .ok (.ifCond .eq 27, 3) := bdX7_person_0 (4, .ifCond .eq 27, 3) (List.mem_of_getElem? (i := 2) rfl)
theorem dX7_person_7 : decode cX7_person 7 = .ok (.aload_n 0, 1) := bdX7_person_0 (7, .aload_n 0, 1) (List.mem_of_getElem? (i := 3) rfl)
theorem dX7_person_8 : decode cX7_person 8 = .ok (.getfield 10, 3) := bdX7_person_0 (8, .getfield 10, 3) (List.mem_of_getElem? (i := 4) rfl)
theorem dX7_person_11 : decode cX7_person 11 = .ok (.iload_n 2, 1) := bdX7_person_0 (11, .iload_n 2, 1) (List.mem_of_getElem? (i := 5) rfl)
theorem dX7_person_12 : decode cX7_person 12 = .ok (.iconst 0, 1) := bdX7_person_0 (12, .iconst 0, 1) (List.mem_of_getElem? (i := 6) rfl)
theorem dX7_person_13 : decode cX7_person 13 = .ok (.invokevirtual 69, 3) := bdX7_person_0 (13, .invokevirtual 69, 3) (List.mem_of_getElem? (i := 7) rfl)
theorem dX7_person_16 : decode cX7_person 16 = .ok (.ifCond .eq 15, 3) := bdX7_person_0 (16, .ifCond .eq 15, 3) (List.mem_of_getElem? (i := 8) rfl)
theorem dX7_person_19 : decode cX7_person 19 = .ok (.aload_n 0, 1) := bdX7_person_0 (19, .aload_n 0, 1) (List.mem_of_getElem? (i := 9) rfl)
theorem dX7_person_20 : decode cX7_person 20 = .ok (.getfield 10, 3) := bdX7_person_0 (20, .getfield 10, 3) (List.mem_of_getElem? (i := 10) rfl)
theorem dX7_person_23 : decode cX7_person 23 = .ok (.iload_n 3, 1) := bdX7_person_0 (23, .iload_n 3, 1) (List.mem_of_getElem? (i := 11) rfl)
theorem dX7_person_24 : decode cX7_person 24 = .ok (.iconst 1, 1) := bdX7_person_0 (24, .iconst 1, 1) (List.mem_of_getElem? (i := 12) rfl)
theorem dX7_person_25 : decode cX7_person 25 = .ok (.invokevirtual 69, 3) := bdX7_person_0 (25, .invokevirtual 69, 3) (List.mem_of_getElem? (i := 13) rfl)
theorem dX7_person_28 : decode cX7_person 28 = .ok (.ifCond .ne 6, 3) := bdX7_person_0 (28, .ifCond .ne 6, 3) (List.mem_of_getElem? (i := 14) rfl)
theorem dX7_person_31 : decode cX7_person 31 = .ok (.ldc 73, 2) := bdX7_person_0 (31, .ldc 73, 2) (List.mem_of_getElem? (i := 15) rfl)
theorem dX7_person_33 : decode cX7_person 33 = .ok (.ireturn, 1) := bdX7_person_0 (33, .ireturn, 1) (List.mem_of_getElem? (i := 16) rfl)
theorem dX7_person_34 : decode cX7_person 34 = .ok (.iload 4, 2) := bdX7_person_0 (34, .iload 4, 2) (List.mem_of_getElem? (i := 17) rfl)
theorem dX7_person_36 : decode cX7_person 36 = .ok (.ifCond .lt 17, 3) := bdX7_person_0 (36, .ifCond .lt 17, 3) (List.mem_of_getElem? (i := 18) rfl)
theorem dX7_person_39 : decode cX7_person 39 = .ok (.iload 4, 2) := bdX7_person_0 (39, .iload 4, 2) (List.mem_of_getElem? (i := 19) rfl)
theorem dX7_person_41 : decode cX7_person 41 = .ok (.iconst 1, 1) := bdX7_person_0 (41, .iconst 1, 1) (List.mem_of_getElem? (i := 20) rfl)
theorem dX7_person_42 : decode cX7_person 42 = .ok (.if_icmp .gt 11, 3) := bdX7_person_0 (42, .if_icmp .gt 11, 3) (List.mem_of_getElem? (i := 21) rfl)
theorem dX7_person_45 : decode cX7_person 45 = .ok (.iload 5, 2) := bdX7_person_0 (45, .iload 5, 2) (List.mem_of_getElem? (i := 22) rfl)
theorem dX7_person_47 : decode cX7_person 47 = .ok (.invokestatic 74, 3) := bdX7_person_0 (47, .invokestatic 74, 3) (List.mem_of_getElem? (i := 23) rfl)
theorem dX7_person_50 : decode cX7_person 50 = .ok (.ifCond .ne 6, 3) := bdX7_person_0 (50, .ifCond .ne 6, 3) (List.mem_of_getElem? (i := 24) rfl)
theorem dX7_person_53 : decode cX7_person 53 = .ok (.ldc 73, 2) := bdX7_person_0 (53, .ldc 73, 2) (List.mem_of_getElem? (i := 25) rfl)
theorem dX7_person_55 : decode cX7_person 55 = .ok (.ireturn, 1) := bdX7_person_0 (55, .ireturn, 1) (List.mem_of_getElem? (i := 26) rfl)
theorem dX7_person_56 : decode cX7_person 56 = .ok (.aload_n 0, 1) := bdX7_person_0 (56, .aload_n 0, 1) (List.mem_of_getElem? (i := 27) rfl)
theorem dX7_person_57 : decode cX7_person 57 = .ok (.getfield 10, 3) := bdX7_person_0 (57, .getfield 10, 3) (List.mem_of_getElem? (i := 28) rfl)
theorem dX7_person_60 : decode cX7_person 60 = .ok (.invokevirtual 77, 3) := bdX7_person_0 (60, .invokevirtual 77, 3) (List.mem_of_getElem? (i := 29) rfl)
theorem dX7_person_63 : decode cX7_person 63 = .ok (.ifCond .ne 6, 3) := bdX7_person_0 (63, .ifCond .ne 6, 3) (List.mem_of_getElem? (i := 30) rfl)
theorem dX7_person_66 : decode cX7_person 66 = .ok (.ldc 81, 2) := bdX7_person_0 (66, .ldc 81, 2) (List.mem_of_getElem? (i := 31) rfl)
theorem dX7_person_68 : decode cX7_person 68 = .ok (.ireturn, 1) := bdX7_person_0 (68, .ireturn, 1) (List.mem_of_getElem? (i := 32) rfl)
theorem dX7_person_69 : decode cX7_person 69 = .ok (.aload_n 0, 1) := bdX7_person_0 (69, .aload_n 0, 1) (List.mem_of_getElem? (i := 33) rfl)
theorem dX7_person_70 : decode cX7_person 70 = .ok (.getfield 10, 3) := bdX7_person_0 (70, .getfield 10, 3) (List.mem_of_getElem? (i := 34) rfl)
theorem dX7_person_73 : decode cX7_person 73 = .ok (.iload_n 1, 1) := bdX7_person_0 (73, .iload_n 1, 1) (List.mem_of_getElem? (i := 35) rfl)
theorem dX7_person_74 : decode cX7_person 74 = .ok (.iload_n 2, 1) := bdX7_person_0 (74, .iload_n 2, 1) (List.mem_of_getElem? (i := 36) rfl)
theorem dX7_person_75 : decode cX7_person 75 = .ok (.iload_n 3, 1) := bdX7_person_0 (75, .iload_n 3, 1) (List.mem_of_getElem? (i := 37) rfl)
theorem dX7_person_76 : decode cX7_person 76 = .ok (.iload 4, 2) := bdX7_person_0 (76, .iload 4, 2) (List.mem_of_getElem? (i := 38) rfl)
theorem dX7_person_78 : decode cX7_person 78 = .ok (.iload 5, 2) := bdX7_person_0 (78, .iload 5, 2) (List.mem_of_getElem? (i := 39) rfl)
theorem bdX7_person_80 : ∀ q ∈ ([(80, .invokevirtual 82, 3), (83, .ireturn, 1)] : List (Nat × Jvm.ClassFile.Instr × Nat)), decode cX7_person q.1 = .ok q.2 := chk_ok _ 80 _ rfl (by decide +kernel)
theorem dX7_person_80 : decode cX7_person 80 = .ok (.invokevirtual 82, 3) := bdX7_person_80 (80, .invokevirtual 82, 3) (List.mem_of_getElem? (i := 0) rfl)
theorem dX7_person_83 : decode cX7_person 83 = .ok (.ireturn, 1) := bdX7_person_80 (83, .ireturn, 1) (List.mem_of_getElem? (i := 1) rfl)
theorem kX7_69 : mthV RX7 69 0 yX0_canBeParent prog_2_method_5_code 3 (Option.some Jvm.ClassFile.FieldType.boolean) 2 := ⟨⟨⟨tw_326, tw_61, tw_329⟩, rfl, by decide +kernel⟩, tw_327, tw_328, rfl⟩
theorem kX7_74 : mthS RX7 74 yX7_isCharge prog_1_method_48_code 1 (Option.some Jvm.ClassFile.FieldType.boolean) 1 := ⟨⟨⟨tw_335, tw_60, tw_337⟩, rfl, by decide +kernel⟩, tw_336⟩
theorem kX7_77 : mthV RX7 77 0 yX0_hasRoom prog_2_method_4_code 1 (Option.some Jvm.ClassFile.FieldType.boolean) 0 := ⟨⟨⟨tw_338, tw_61, tw_341⟩, rfl, by decide +kernel⟩, tw_339, tw_340, rfl⟩
theorem kX7_82 : mthV RX7 82 0 yX0_add prog_2_method_6_code 7 (Option.some Jvm.ClassFile.FieldType.int) 5 := ⟨⟨⟨tw_343, tw_61, tw_346⟩, rfl, by decide +kernel⟩, tw_344, tw_345, rfl⟩
def BX7_person_53 (ln : Nat → Nat) (post : Int32 → HC → Prop) (S : HC)  : Prop := post (-1000000001 : Int32) S
def BX7_person_31 (ln : Nat → Nat) (post : Int32 → HC → Prop) (S : HC)  : Prop := post (-1000000001 : Int32) S
def wpX7_person (ln : Nat → Nat) (S : HC) (a0 : Nat) (a1 : Int32) (a2 : Int32) (a3 : Int32) (a4 : Int32) (a5 : Int32) (post : Int32 → HC → Prop) : Prop := wpX7_isKind ln S a1 fun z1 S => if z1 = 0 then (BX7_person_31 ln post S) else (dn_ (hR S a0 0) fun b2 => wpX0_canBeParent ln S b2 a2 (0 : Int32) fun z3 S => if z3 = 0 then (BX7_person_31 ln post S) else (dn_ (hR S a0 0) fun b4 => wpX0_canBeParent ln S b4 a3 (1 : Int32) fun z5 S => if z5 = 0 then (BX7_person_31 ln post S) else (if a4 < 0 then (BX7_person_53 ln post S) else (if (1 : Int32) < a4 then (BX7_person_53 ln post S) else (wpX7_isCharge ln S a5 fun z6 S => if z6 = 0 then (BX7_person_53 ln post S) else (dn_ (hR S a0 0) fun b7 => wpX0_hasRoom ln S b7 fun z8 S => if z8 = 0 then (post (-1000000003 : Int32) S) else (dn_ (hR S a0 0) fun b9 => wpX0_add ln S b9 a1 a2 a3 a4 a5 fun z10 S => post z10 S)))))))
abbrev rmX7_person : Room := { frames := 2, cells := 0, slots := 0, locals := 46 }
set_option maxHeartbeats 4000000 in
set_option maxRecDepth 100000 in
theorem ctX7_person {l : Launch} {g : GX} {N : Nat} {ln : Nat → Nat} {S : HC} {a0 : Nat} {a1 : Int32} {a2 : Int32} {a3 : Int32} {a4 : Int32} {a5 : Int32} {post : Int32 → HC → Prop} (hr_a0 : a0 < N) (hk_a0 : kd a0 = 7) (h : wpX7_person ln S a0 a1 a2 a3 a4 a5 post) : Met l yX7_person (Cond.code yX7_person prog_1_method_2_code 6 (Option.some Jvm.ClassFile.FieldType.int) :: gtbl) rmX7_person (va_Pc [.ref (gz g + a0), .int a1, .int a2, .int a3, .int a4, .int a5] (AtP g N ln S)) (QI g N ln post) 0 0 (gF g) := by
  refine m_of (by decide) (Nat.le_of_ble_eq_true rfl) ?_
  intro p e s m below meth c ls F hr I hl
  have hl : lv_has ls 6 [(0, .ref (gz g + a0)), (1, .int a1), (2, .int a2), (3, .int a3), (4, .int a4), (5, .int a5)] := hl
  unfold wpX7_person at h
  have hj_53 : ∀ (S : HC) (H : Heap) (locs : List Loc) (ls : Array Slot), BX7_person_53 ln post S  → Inv g N ln S s H locs → lv_has ls 6 [] → W p l e rmX7_person s m ([.ref (gz g + a0), .int a1, .int a2, .int a3, .int a4, .int a5] : List Value).toArray below meth c H locs 0 0 (MQ below (QI g N ln post) ([.ref (gz g + a0), .int a1, .int a2, .int a3, .int a4, .int a5] : List Value).toArray s 0 0 (gF g)) (F0 m 53 ls []) := by
    intro S H locs ls h I hl
    unfold BX7_person_53 at h
    refine lv_ldc F.1 F.2.1 F.2.2.2.1 (F.2.2.2.2 _ tw_334) dX7_person_53 ?_
    exact r_ireturn F I ⟨hr.1, hr.2.1, trivial⟩ h dX7_person_55
  have hj_31 : ∀ (S : HC) (H : Heap) (locs : List Loc) (ls : Array Slot), BX7_person_31 ln post S  → Inv g N ln S s H locs → lv_has ls 6 [] → W p l e rmX7_person s m ([.ref (gz g + a0), .int a1, .int a2, .int a3, .int a4, .int a5] : List Value).toArray below meth c H locs 0 0 (MQ below (QI g N ln post) ([.ref (gz g + a0), .int a1, .int a2, .int a3, .int a4, .int a5] : List Value).toArray s 0 0 (gF g)) (F0 m 31 ls []) := by
    intro S H locs ls h I hl
    unfold BX7_person_31 at h
    refine lv_ldc F.1 F.2.1 F.2.2.2.1 (F.2.2.2.2 _ tw_334) dX7_person_31 ?_
    exact r_ireturn F I ⟨hr.1, hr.2.1, trivial⟩ h dX7_person_33
  refine lv_iload_n F.1 F.2.1 dX7_person_0 rfl (lv_at hl 1 rfl) ?_
  refine g_I I (run_S (As := [.int a1]) (rest := []) F I kX7_65 (ctX7_isKind h) ⟨rfl, rfl⟩ ⟨Nat.le_of_ble_eq_true rfl, Nat.le_of_ble_eq_true rfl⟩ rfl hl.1 rfl (Nat.le_of_ble_eq_true rfl) ⟨Nat.le_of_ble_eq_true rfl, Nat.le_of_ble_eq_true rfl⟩ dX7_person_1) (fun z1 S H locs I h => ?_)
  refine r_if_eq (tgt := 31) F dX7_person_4 (by decide) h (fun h => ?_) (fun h => ?_)
  · exact hj_31 S _ _ _   h I (lv_sub hl [] rfl)
  · refine lv_aload_n F.1 F.2.1 dX7_person_7 rfl (lv_at hl 0 rfl) ?_
    refine r_getN F I hr_a0 hk_a0 fX7_10 (f := 0) rfl (by decide) dX7_person_8 h (fun b2 hr_b2 hk_b2 h => ?_)
    refine lv_iload_n F.1 F.2.1 dX7_person_11 rfl (lv_at hl 2 rfl) ?_
    refine lv_iconst (v := 0) F.1 F.2.1 dX7_person_12 (by decide) ?_
    refine g_I I (run_V (As := [.int a2, .int (0 : Int32)]) (rest := []) F I hr_b2 hk_b2 (by decide) kX7_69 (ctX0_canBeParent hr_b2 hk_b2 h) ⟨rfl, rfl⟩ ⟨Nat.le_of_ble_eq_true rfl, Nat.le_of_ble_eq_true rfl⟩ rfl hl.1 rfl (Nat.le_of_ble_eq_true rfl) ⟨Nat.le_of_ble_eq_true rfl, Nat.le_of_ble_eq_true rfl⟩ dX7_person_13) (fun z3 S H locs I h => ?_)
    refine r_if_eq (tgt := 31) F dX7_person_16 (by decide) h (fun h => ?_) (fun h => ?_)
    · exact hj_31 S _ _ _   h I (lv_sub hl [] rfl)
    · refine lv_aload_n F.1 F.2.1 dX7_person_19 rfl (lv_at hl 0 rfl) ?_
      refine r_getN F I hr_a0 hk_a0 fX7_10 (f := 0) rfl (by decide) dX7_person_20 h (fun b4 hr_b4 hk_b4 h => ?_)
      refine lv_iload_n F.1 F.2.1 dX7_person_23 rfl (lv_at hl 3 rfl) ?_
      refine lv_iconst (v := 1) F.1 F.2.1 dX7_person_24 (by decide) ?_
      refine g_I I (run_V (As := [.int a3, .int (1 : Int32)]) (rest := []) F I hr_b4 hk_b4 (by decide) kX7_69 (ctX0_canBeParent hr_b4 hk_b4 h) ⟨rfl, rfl⟩ ⟨Nat.le_of_ble_eq_true rfl, Nat.le_of_ble_eq_true rfl⟩ rfl hl.1 rfl (Nat.le_of_ble_eq_true rfl) ⟨Nat.le_of_ble_eq_true rfl, Nat.le_of_ble_eq_true rfl⟩ dX7_person_25) (fun z5 S H locs I h => ?_)
      refine r_if_ne (tgt := 34) F dX7_person_28 (by decide) h (fun h => ?_) (fun h => ?_)
      · refine lv_iload F.1 F.2.1 dX7_person_34 (lv_at hl 4 rfl) ?_
        refine r_if_lt (tgt := 53) F dX7_person_36 (by decide) h (fun h => ?_) (fun h => ?_)
        · exact hj_53 S _ _ _   h I (lv_sub hl [] rfl)
        · refine lv_iload F.1 F.2.1 dX7_person_39 (lv_at hl 4 rfl) ?_
          refine lv_iconst (v := 1) F.1 F.2.1 dX7_person_41 (by decide) ?_
          refine r_icmp_gt (tgt := 53) F dX7_person_42 (by decide) h (fun h => ?_) (fun h => ?_)
          · exact hj_53 S _ _ _   h I (lv_sub hl [] rfl)
          · refine lv_iload F.1 F.2.1 dX7_person_45 (lv_at hl 5 rfl) ?_
            refine g_I I (run_S (As := [.int a5]) (rest := []) F I kX7_74 (ctX7_isCharge h) ⟨rfl, rfl⟩ ⟨Nat.le_of_ble_eq_true rfl, Nat.le_of_ble_eq_true rfl⟩ rfl hl.1 rfl (Nat.le_of_ble_eq_true rfl) ⟨Nat.le_of_ble_eq_true rfl, Nat.le_of_ble_eq_true rfl⟩ dX7_person_47) (fun z6 S H locs I h => ?_)
            refine r_if_ne (tgt := 56) F dX7_person_50 (by decide) h (fun h => ?_) (fun h => ?_)
            · refine lv_aload_n F.1 F.2.1 dX7_person_56 rfl (lv_at hl 0 rfl) ?_
              refine r_getN F I hr_a0 hk_a0 fX7_10 (f := 0) rfl (by decide) dX7_person_57 h (fun b7 hr_b7 hk_b7 h => ?_)
              refine g_I I (run_V (As := []) (rest := []) F I hr_b7 hk_b7 (by decide) kX7_77 (ctX0_hasRoom hr_b7 hk_b7 h) ⟨rfl, rfl⟩ ⟨Nat.le_of_ble_eq_true rfl, Nat.le_of_ble_eq_true rfl⟩ rfl hl.1 rfl (Nat.le_of_ble_eq_true rfl) ⟨Nat.le_of_ble_eq_true rfl, Nat.le_of_ble_eq_true rfl⟩ dX7_person_60) (fun z8 S H locs I h => ?_)
              refine r_if_ne (tgt := 69) F dX7_person_63 (by decide) h (fun h => ?_) (fun h => ?_)
              · refine lv_aload_n F.1 F.2.1 dX7_person_69 rfl (lv_at hl 0 rfl) ?_
                refine r_getN F I hr_a0 hk_a0 fX7_10 (f := 0) rfl (by decide) dX7_person_70 h (fun b9 hr_b9 hk_b9 h => ?_)
                refine lv_iload_n F.1 F.2.1 dX7_person_73 rfl (lv_at hl 1 rfl) ?_
                refine lv_iload_n F.1 F.2.1 dX7_person_74 rfl (lv_at hl 2 rfl) ?_
                refine lv_iload_n F.1 F.2.1 dX7_person_75 rfl (lv_at hl 3 rfl) ?_
                refine lv_iload F.1 F.2.1 dX7_person_76 (lv_at hl 4 rfl) ?_
                refine lv_iload F.1 F.2.1 dX7_person_78 (lv_at hl 5 rfl) ?_
                refine g_I I (run_V (As := [.int a1, .int a2, .int a3, .int a4, .int a5]) (rest := []) F I hr_b9 hk_b9 (by decide) kX7_82 (ctX0_add hr_b9 hk_b9 h) ⟨rfl, rfl⟩ ⟨Nat.le_of_ble_eq_true rfl, Nat.le_of_ble_eq_true rfl⟩ rfl hl.1 rfl (Nat.le_of_ble_eq_true rfl) ⟨Nat.le_of_ble_eq_true rfl, Nat.le_of_ble_eq_true rfl⟩ dX7_person_80) (fun z10 S H locs I h => ?_)
                exact r_ireturn F I ⟨hr.1, hr.2.1, trivial⟩ h dX7_person_83
              · refine lv_ldc F.1 F.2.1 F.2.2.2.1 (F.2.2.2.2 _ tw_342) dX7_person_66 ?_
                exact r_ireturn F I ⟨hr.1, hr.2.1, trivial⟩ h dX7_person_68
            · exact hj_53 S _ _ _   h I (lv_sub hl [] rfl)
      · exact hj_31 S _ _ _   h I (lv_sub hl [] rfl)
theorem bdX7_told_0 : ∀ q ∈ ([(0, .aload_n 0, 1), (1, .getfield 10, 3), (4, .iload_n 1, 1), (5, .invokevirtual 86, 3), (8, .ifCond .ne 6, 3), (11, .ldc 73, 2), (13, .ireturn, 1), (14, .iload_n 2, 1), (60, .aload_n 0, 1), (61, .getfield 10, 3), (64, .getfield 89, 3), (67, .iload_n 1, 1), (68, .iaload, 1), (69, .ireturn, 1), (70, .aload_n 0, 1), (71, .getfield 10, 3), (74, .getfield 92, 3), (77, .iload_n 1, 1), (78, .iaload, 1), (79, .ireturn, 1), (80, .aload_n 0, 1), (81, .getfield 10, 3), (84, .getfield 95, 3), (87, .iload_n 1, 1), (88, .iaload, 1), (89, .ireturn, 1), (90, .aload_n 0, 1), (91, .getfield 10, 3), (94, .getfield 98, 3), (97, .iload_n 1, 1), (98, .iaload, 1), (99, .ireturn, 1), (100, .aload_n 0, 1), (101, .getfield 10, 3), (104, .getfield 101, 3), (107, .iload_n 1, 1), (108, .iaload, 1), (109, .ireturn, 1), (110, .aload_n 0, 1), (111, .getfield 10, 3)] : List (Nat × Jvm.ClassFile.Instr × Nat)), decode cX7_told q.1 = .ok q.2 := chk_ok _ 0 _ rfl (by decide +kernel)
theorem dX7_told_0 : decode cX7_told 0 = .ok (.aload_n 0, 1) := bdX7_told_0 (0, .aload_n 0, 1) (List.mem_of_getElem? (i := 0) rfl)
theorem dX7_told_1 : decode cX7_told 1 = .ok (.getfield 10, 3) := bdX7_told_0 (1, .getfield 10, 3) (List.mem_of_getElem? (i := 1) rfl)
theorem dX7_told_4 : decode cX7_told 4 = .ok (.iload_n 1, 1) := bdX7_told_0 (4, .iload_n 1, 1) (List.mem_of_getElem? (i := 2) rfl)
theorem dX7_told_5 : decode cX7_told 5 = .ok (.invokevirtual 86, 3) := bdX7_told_0 (5, .invokevirtual 86, 3) (List.mem_of_getElem? (i := 3) rfl)
theorem dX7_told_8 : decode cX7_told 8 = .ok (.ifCond .ne 6, 3) := bdX7_told_0 (8, .ifCond .ne 6, 3) (List.mem_of_getElem? (i := 4) rfl)
theorem dX7_told_11 : decode cX7_told 11 = .ok (.ldc 73, 2) := bdX7_told_0 (11, .ldc 73, 2) (List.mem_of_getElem? (i := 5) rfl)
theorem dX7_told_13 : decode cX7_told 13 = .ok (.ireturn, 1) := bdX7_told_0 (13, .ireturn, 1) (List.mem_of_getElem? (i := 6) rfl)
theorem dX7_told_14 : decode cX7_told 14 = .ok (.iload_n 2, 1) := bdX7_told_0 (14, .iload_n 2, 1) (List.mem_of_getElem? (i := 7) rfl)
theorem dX7_told_60 : decode cX7_told 60 = .ok (.aload_n 0, 1) := bdX7_told_0 (60, .aload_n 0, 1) (List.mem_of_getElem? (i := 8) rfl)
theorem dX7_told_61 : decode cX7_told 61 = .ok (.getfield 10, 3) := bdX7_told_0 (61, .getfield 10, 3) (List.mem_of_getElem? (i := 9) rfl)
theorem dX7_told_64 : decode cX7_told 64 = .ok (.getfield 89, 3) := bdX7_told_0 (64, .getfield 89, 3) (List.mem_of_getElem? (i := 10) rfl)
theorem dX7_told_67 : decode cX7_told 67 = .ok (.iload_n 1, 1) := bdX7_told_0 (67, .iload_n 1, 1) (List.mem_of_getElem? (i := 11) rfl)
theorem dX7_told_68 : decode cX7_told 68 = .ok (.iaload, 1) := bdX7_told_0 (68, .iaload, 1) (List.mem_of_getElem? (i := 12) rfl)
theorem dX7_told_69 : decode cX7_told 69 = .ok (.ireturn, 1) := bdX7_told_0 (69, .ireturn, 1) (List.mem_of_getElem? (i := 13) rfl)
theorem dX7_told_70 : decode cX7_told 70 = .ok (.aload_n 0, 1) := bdX7_told_0 (70, .aload_n 0, 1) (List.mem_of_getElem? (i := 14) rfl)
theorem dX7_told_71 : decode cX7_told 71 = .ok (.getfield 10, 3) := bdX7_told_0 (71, .getfield 10, 3) (List.mem_of_getElem? (i := 15) rfl)
theorem dX7_told_74 : decode cX7_told 74 = .ok (.getfield 92, 3) := bdX7_told_0 (74, .getfield 92, 3) (List.mem_of_getElem? (i := 16) rfl)
theorem dX7_told_77 : decode cX7_told 77 = .ok (.iload_n 1, 1) := bdX7_told_0 (77, .iload_n 1, 1) (List.mem_of_getElem? (i := 17) rfl)
theorem dX7_told_78 : decode cX7_told 78 = .ok (.iaload, 1) := bdX7_told_0 (78, .iaload, 1) (List.mem_of_getElem? (i := 18) rfl)
theorem dX7_told_79 : decode cX7_told 79 = .ok (.ireturn, 1) := bdX7_told_0 (79, .ireturn, 1) (List.mem_of_getElem? (i := 19) rfl)
theorem dX7_told_80 : decode cX7_told 80 = .ok (.aload_n 0, 1) := bdX7_told_0 (80, .aload_n 0, 1) (List.mem_of_getElem? (i := 20) rfl)
theorem dX7_told_81 : decode cX7_told 81 = .ok (.getfield 10, 3) := bdX7_told_0 (81, .getfield 10, 3) (List.mem_of_getElem? (i := 21) rfl)
theorem dX7_told_84 : decode cX7_told 84 = .ok (.getfield 95, 3) := bdX7_told_0 (84, .getfield 95, 3) (List.mem_of_getElem? (i := 22) rfl)
theorem dX7_told_87 : decode cX7_told 87 = .ok (.iload_n 1, 1) := bdX7_told_0 (87, .iload_n 1, 1) (List.mem_of_getElem? (i := 23) rfl)
theorem dX7_told_88 : decode cX7_told 88 = .ok (.iaload, 1) := bdX7_told_0 (88, .iaload, 1) (List.mem_of_getElem? (i := 24) rfl)
theorem dX7_told_89 : decode cX7_told 89 = .ok (.ireturn, 1) := bdX7_told_0 (89, .ireturn, 1) (List.mem_of_getElem? (i := 25) rfl)
theorem dX7_told_90 : decode cX7_told 90 = .ok (.aload_n 0, 1) := bdX7_told_0 (90, .aload_n 0, 1) (List.mem_of_getElem? (i := 26) rfl)
theorem dX7_told_91 : decode cX7_told 91 = .ok (.getfield 10, 3) := bdX7_told_0 (91, .getfield 10, 3) (List.mem_of_getElem? (i := 27) rfl)
theorem dX7_told_94 : decode cX7_told 94 = .ok (.getfield 98, 3) := bdX7_told_0 (94, .getfield 98, 3) (List.mem_of_getElem? (i := 28) rfl)
theorem dX7_told_97 : decode cX7_told 97 = .ok (.iload_n 1, 1) := bdX7_told_0 (97, .iload_n 1, 1) (List.mem_of_getElem? (i := 29) rfl)
theorem dX7_told_98 : decode cX7_told 98 = .ok (.iaload, 1) := bdX7_told_0 (98, .iaload, 1) (List.mem_of_getElem? (i := 30) rfl)
theorem dX7_told_99 : decode cX7_told 99 = .ok (.ireturn, 1) := bdX7_told_0 (99, .ireturn, 1) (List.mem_of_getElem? (i := 31) rfl)
theorem dX7_told_100 : decode cX7_told 100 = .ok (.aload_n 0, 1) := bdX7_told_0 (100, .aload_n 0, 1) (List.mem_of_getElem? (i := 32) rfl)
theorem dX7_told_101 : decode cX7_told 101 = .ok (.getfield 10, 3) := bdX7_told_0 (101, .getfield 10, 3) (List.mem_of_getElem? (i := 33) rfl)
theorem dX7_told_104 : decode cX7_told 104 = .ok (.getfield 101, 3) := bdX7_told_0 (104, .getfield 101, 3) (List.mem_of_getElem? (i := 34) rfl)
theorem dX7_told_107 : decode cX7_told 107 = .ok (.iload_n 1, 1) := bdX7_told_0 (107, .iload_n 1, 1) (List.mem_of_getElem? (i := 35) rfl)
theorem dX7_told_108 : decode cX7_told 108 = .ok (.iaload, 1) := bdX7_told_0 (108, .iaload, 1) (List.mem_of_getElem? (i := 36) rfl)
theorem dX7_told_109 : decode cX7_told 109 = .ok (.ireturn, 1) := bdX7_told_0 (109, .ireturn, 1) (List.mem_of_getElem? (i := 37) rfl)
theorem dX7_told_110 : decode cX7_told 110 = .ok (.aload_n 0, 1) := bdX7_told_0 (110, .aload_n 0, 1) (List.mem_of_getElem? (i := 38) rfl)
theorem dX7_told_111 : decode cX7_told 111 = .ok (.getfield 10, 3) := bdX7_told_0 (111, .getfield 10, 3) (List.mem_of_getElem? (i := 39) rfl)
theorem bdX7_told_114 : ∀ q ∈ ([(114, .getfield 104, 3), (117, .iload_n 1, 1), (118, .iaload, 1), (119, .ireturn, 1), (120, .aload_n 0, 1), (121, .getfield 10, 3), (124, .iload_n 1, 1), (125, .invokevirtual 107, 3), (128, .ifCond .eq 7, 3), (131, .iconst 1, 1), (132, .goto 4, 3), (135, .iconst 0, 1), (136, .ireturn, 1), (137, .aload_n 0, 1), (138, .getfield 10, 3), (141, .getfield 89, 3), (144, .iload_n 1, 1), (145, .iaload, 1), (146, .aload_n 0, 1), (147, .getfield 10, 3), (150, .getfield 101, 3), (153, .iload_n 1, 1), (154, .iaload, 1), (155, .invokestatic 110, 3), (158, .ireturn, 1), (159, .ldc 73, 2), (161, .ireturn, 1)] : List (Nat × Jvm.ClassFile.Instr × Nat)), decode cX7_told q.1 = .ok q.2 := chk_ok _ 114 _ rfl (by decide +kernel)
theorem dX7_told_114 : decode cX7_told 114 = .ok (.getfield 104, 3) := bdX7_told_114 (114, .getfield 104, 3) (List.mem_of_getElem? (i := 0) rfl)
theorem dX7_told_117 : decode cX7_told 117 = .ok (.iload_n 1, 1) := bdX7_told_114 (117, .iload_n 1, 1) (List.mem_of_getElem? (i := 1) rfl)
theorem dX7_told_118 : decode cX7_told 118 = .ok (.iaload, 1) := bdX7_told_114 (118, .iaload, 1) (List.mem_of_getElem? (i := 2) rfl)
theorem dX7_told_119 : decode cX7_told 119 = .ok (.ireturn, 1) := bdX7_told_114 (119, .ireturn, 1) (List.mem_of_getElem? (i := 3) rfl)
theorem dX7_told_120 : decode cX7_told 120 = .ok (.aload_n 0, 1) := bdX7_told_114 (120, .aload_n 0, 1) (List.mem_of_getElem? (i := 4) rfl)
theorem dX7_told_121 : decode cX7_told 121 = .ok (.getfield 10, 3) := bdX7_told_114 (121, .getfield 10, 3) (List.mem_of_getElem? (i := 5) rfl)
theorem dX7_told_124 : decode cX7_told 124 = .ok (.iload_n 1, 1) := bdX7_told_114 (124, .iload_n 1, 1) (List.mem_of_getElem? (i := 6) rfl)
theorem dX7_told_125 : decode cX7_told 125 = .ok (.invokevirtual 107, 3) := bdX7_told_114 (125, .invokevirtual 107, 3) (List.mem_of_getElem? (i := 7) rfl)
theorem dX7_told_128 : decode cX7_told 128 = .ok (.ifCond .eq 7, 3) := bdX7_told_114 (128, .ifCond .eq 7, 3) (List.mem_of_getElem? (i := 8) rfl)
theorem dX7_told_131 : decode cX7_told 131 = .ok (.iconst 1, 1) := bdX7_told_114 (131, .iconst 1, 1) (List.mem_of_getElem? (i := 9) rfl)
theorem dX7_told_132 : decode cX7_told 132 = .ok (.goto 4, 3) := bdX7_told_114 (132, .goto 4, 3) (List.mem_of_getElem? (i := 10) rfl)
theorem dX7_told_135 : decode cX7_told 135 = .ok (.iconst 0, 1) := bdX7_told_114 (135, .iconst 0, 1) (List.mem_of_getElem? (i := 11) rfl)
theorem dX7_told_136 : decode cX7_told 136 = .ok (.ireturn, 1) := bdX7_told_114 (136, .ireturn, 1) (List.mem_of_getElem? (i := 12) rfl)
theorem dX7_told_137 : decode cX7_told 137 = .ok (.aload_n 0, 1) := bdX7_told_114 (137, .aload_n 0, 1) (List.mem_of_getElem? (i := 13) rfl)
theorem dX7_told_138 : decode cX7_told 138 = .ok (.getfield 10, 3) := bdX7_told_114 (138, .getfield 10, 3) (List.mem_of_getElem? (i := 14) rfl)
theorem dX7_told_141 : decode cX7_told 141 = .ok (.getfield 89, 3) := bdX7_told_114 (141, .getfield 89, 3) (List.mem_of_getElem? (i := 15) rfl)
theorem dX7_told_144 : decode cX7_told 144 = .ok (.iload_n 1, 1) := bdX7_told_114 (144, .iload_n 1, 1) (List.mem_of_getElem? (i := 16) rfl)
theorem dX7_told_145 : decode cX7_told 145 = .ok (.iaload, 1) := bdX7_told_114 (145, .iaload, 1) (List.mem_of_getElem? (i := 17) rfl)
theorem dX7_told_146 : decode cX7_told 146 = .ok (.aload_n 0, 1) := bdX7_told_114 (146, .aload_n 0, 1) (List.mem_of_getElem? (i := 18) rfl)
theorem dX7_told_147 : decode cX7_told 147 = .ok (.getfield 10, 3) := bdX7_told_114 (147, .getfield 10, 3) (List.mem_of_getElem? (i := 19) rfl)
theorem dX7_told_150 : decode cX7_told 150 = .ok (.getfield 101, 3) := bdX7_told_114 (150, .getfield 101, 3) (List.mem_of_getElem? (i := 20) rfl)
theorem dX7_told_153 : decode cX7_told 153 = .ok (.iload_n 1, 1) := bdX7_told_114 (153, .iload_n 1, 1) (List.mem_of_getElem? (i := 21) rfl)
theorem dX7_told_154 : decode cX7_told 154 = .ok (.iaload, 1) := bdX7_told_114 (154, .iaload, 1) (List.mem_of_getElem? (i := 22) rfl)
theorem dX7_told_155 : decode cX7_told 155 = .ok (.invokestatic 110, 3) := bdX7_told_114 (155, .invokestatic 110, 3) (List.mem_of_getElem? (i := 23) rfl)
theorem dX7_told_158 : decode cX7_told 158 = .ok (.ireturn, 1) := bdX7_told_114 (158, .ireturn, 1) (List.mem_of_getElem? (i := 24) rfl)
theorem dX7_told_159 : decode cX7_told 159 = .ok (.ldc 73, 2) := bdX7_told_114 (159, .ldc 73, 2) (List.mem_of_getElem? (i := 25) rfl)
theorem dX7_told_161 : decode cX7_told 161 = .ok (.ireturn, 1) := bdX7_told_114 (161, .ireturn, 1) (List.mem_of_getElem? (i := 26) rfl)
theorem dX7_told_15 : decode cX7_told 15 = .ok (.tableswitch 144 0 7 #[45, 55, 65, 75, 85, 95, 105, 122], 45) := by decide +kernel
theorem kX7_86 : mthV RX7 86 0 yX0_has prog_2_method_3_code 2 (Option.some Jvm.ClassFile.FieldType.boolean) 1 := ⟨⟨⟨tw_353, tw_61, tw_333⟩, rfl, by decide +kernel⟩, tw_331, tw_332, rfl⟩
theorem fX7_89 : fldOK RX7 89 0 0 (.array .int) true := ⟨_, _, _, tyX0, ⟨rfl, iX0, by decide, rfl, by decide⟩, tw_94, ⟨tyX0_ok, nmX0⟩, by decide +kernel, rfl, rfl⟩
theorem fX7_92 : fldOK RX7 92 0 1 (.array .int) true := ⟨_, _, _, tyX0, ⟨rfl, iX0, by decide, rfl, by decide⟩, tw_97, ⟨tyX0_ok, nmX0⟩, by decide +kernel, rfl, rfl⟩
theorem fX7_95 : fldOK RX7 95 0 2 (.array .int) true := ⟨_, _, _, tyX0, ⟨rfl, iX0, by decide, rfl, by decide⟩, tw_100, ⟨tyX0_ok, nmX0⟩, by decide +kernel, rfl, rfl⟩
theorem fX7_98 : fldOK RX7 98 0 3 (.array .int) true := ⟨_, _, _, tyX0, ⟨rfl, iX0, by decide, rfl, by decide⟩, tw_103, ⟨tyX0_ok, nmX0⟩, by decide +kernel, rfl, rfl⟩
theorem fX7_104 : fldOK RX7 104 0 5 (.array .int) true := ⟨_, _, _, tyX0, ⟨rfl, iX0, by decide, rfl, by decide⟩, tw_108, ⟨tyX0_ok, nmX0⟩, by decide +kernel, rfl, rfl⟩
theorem kX7_107 : mthV RX7 107 0 yX0_isHeiress prog_2_method_14_code 3 (Option.some Jvm.ClassFile.FieldType.boolean) 1 := ⟨⟨⟨tw_354, tw_61, tw_357⟩, rfl, by decide +kernel⟩, tw_355, tw_356, rfl⟩
theorem kX7_110 : mthS RX7 110 yX7_worthOf prog_1_method_53_code 5 (Option.some Jvm.ClassFile.FieldType.int) 2 := ⟨⟨⟨tw_358, tw_60, tw_360⟩, rfl, by decide +kernel⟩, tw_359⟩
def wpX7_told (ln : Nat → Nat) (S : HC) (a0 : Nat) (a1 : Int32) (a2 : Int32) (post : Int32 → HC → Prop) : Prop := dn_ (hR S a0 0) fun b1 => wpX0_has ln S b1 a1 fun z2 S => if z2 = 0 then (post (-1000000001 : Int32) S) else (if a2 = (0 : Int32) then (dn_ (hR S a0 0) fun b3 => dn_ (hR S b3 0) fun b4 => al_ (ln b4) a1 (hI S b4) fun z5 => post z5 S) else if a2 = (1 : Int32) then (dn_ (hR S a0 0) fun b6 => dn_ (hR S b6 1) fun b7 => al_ (ln b7) a1 (hI S b7) fun z8 => post z8 S) else if a2 = (2 : Int32) then (dn_ (hR S a0 0) fun b9 => dn_ (hR S b9 2) fun b10 => al_ (ln b10) a1 (hI S b10) fun z11 => post z11 S) else if a2 = (3 : Int32) then (dn_ (hR S a0 0) fun b12 => dn_ (hR S b12 3) fun b13 => al_ (ln b13) a1 (hI S b13) fun z14 => post z14 S) else if a2 = (4 : Int32) then (dn_ (hR S a0 0) fun b15 => dn_ (hR S b15 4) fun b16 => al_ (ln b16) a1 (hI S b16) fun z17 => post z17 S) else if a2 = (5 : Int32) then (dn_ (hR S a0 0) fun b18 => dn_ (hR S b18 5) fun b19 => al_ (ln b19) a1 (hI S b19) fun z20 => post z20 S) else if a2 = (6 : Int32) then (dn_ (hR S a0 0) fun b21 => wpX0_isHeiress ln S b21 a1 fun z22 S => if z22 = 0 then (post (0 : Int32) S) else (post (1 : Int32) S)) else if a2 = (7 : Int32) then (dn_ (hR S a0 0) fun b23 => dn_ (hR S b23 0) fun b24 => al_ (ln b24) a1 (hI S b24) fun z25 => dn_ (hR S a0 0) fun b26 => dn_ (hR S b26 4) fun b27 => al_ (ln b27) a1 (hI S b27) fun z28 => wpX7_worthOf ln S z25 z28 fun z29 S => post z29 S) else post (-1000000001 : Int32) S)
abbrev rmX7_told : Room := { frames := 2, cells := 0, slots := 0, locals := 43 }
set_option maxHeartbeats 4000000 in
set_option maxRecDepth 100000 in
theorem ctX7_told {l : Launch} {g : GX} {N : Nat} {ln : Nat → Nat} {S : HC} {a0 : Nat} {a1 : Int32} {a2 : Int32} {post : Int32 → HC → Prop} (hr_a0 : a0 < N) (hk_a0 : kd a0 = 7) (h : wpX7_told ln S a0 a1 a2 post) : Met l yX7_told (Cond.code yX7_told prog_1_method_3_code 3 (Option.some Jvm.ClassFile.FieldType.int) :: gtbl) rmX7_told (va_Pc [.ref (gz g + a0), .int a1, .int a2] (AtP g N ln S)) (QI g N ln post) 0 0 (gF g) := by
  refine m_of (by decide) (Nat.le_of_ble_eq_true rfl) ?_
  intro p e s m below meth c ls F hr I hl
  have hl : lv_has ls 3 [(0, .ref (gz g + a0)), (1, .int a1), (2, .int a2)] := hl
  unfold wpX7_told at h
  refine lv_aload_n F.1 F.2.1 dX7_told_0 rfl (lv_at hl 0 rfl) ?_
  refine r_getN F I hr_a0 hk_a0 fX7_10 (f := 0) rfl (by decide) dX7_told_1 h (fun b1 hr_b1 hk_b1 h => ?_)
  refine lv_iload_n F.1 F.2.1 dX7_told_4 rfl (lv_at hl 1 rfl) ?_
  refine g_I I (run_V (As := [.int a1]) (rest := []) F I hr_b1 hk_b1 (by decide) kX7_86 (ctX0_has hr_b1 hk_b1 h) ⟨rfl, rfl⟩ ⟨Nat.le_of_ble_eq_true rfl, Nat.le_of_ble_eq_true rfl⟩ rfl hl.1 rfl (Nat.le_of_ble_eq_true rfl) ⟨Nat.le_of_ble_eq_true rfl, Nat.le_of_ble_eq_true rfl⟩ dX7_told_5) (fun z2 S H locs I h => ?_)
  refine r_if_ne (tgt := 14) F dX7_told_8 (by decide) h (fun h => ?_) (fun h => ?_)
  · refine lv_iload_n F.1 F.2.1 dX7_told_14 rfl (lv_at hl 2 rfl) ?_
    by_cases c0 : a2 = (0 : Int32)
    · rw [if_pos c0] at h
      refine lv_tableIn (off := 45) (tgt := 60) F.1 F.2.1 dX7_told_15 (by rw [c0]; decide) (by rw [c0]; decide) (by rw [c0]; rfl) (by decide) ?_
      refine lv_aload_n F.1 F.2.1 dX7_told_60 rfl (lv_at hl 0 rfl) ?_
      refine r_getN F I hr_a0 hk_a0 fX7_10 (f := 0) rfl (by decide) dX7_told_61 h (fun b3 hr_b3 hk_b3 h => ?_)
      refine r_getN F I hr_b3 hk_b3 fX7_89 (f := 9) rfl (by decide) dX7_told_64 h (fun b4 hr_b4 hk_b4 h => ?_)
      refine lv_iload_n F.1 F.2.1 dX7_told_67 rfl (lv_at hl 1 rfl) ?_
      refine r_ald F I hr_b4 hk_b4 dX7_told_68 h (fun z5 h => ?_)
      exact r_ireturn F I ⟨hr.1, hr.2.1, trivial⟩ h dX7_told_69
    · rw [if_neg c0] at h
      by_cases c1 : a2 = (1 : Int32)
      · rw [if_pos c1] at h
        refine lv_tableIn (off := 55) (tgt := 70) F.1 F.2.1 dX7_told_15 (by rw [c1]; decide) (by rw [c1]; decide) (by rw [c1]; rfl) (by decide) ?_
        refine lv_aload_n F.1 F.2.1 dX7_told_70 rfl (lv_at hl 0 rfl) ?_
        refine r_getN F I hr_a0 hk_a0 fX7_10 (f := 0) rfl (by decide) dX7_told_71 h (fun b6 hr_b6 hk_b6 h => ?_)
        refine r_getN F I hr_b6 hk_b6 fX7_92 (f := 9) rfl (by decide) dX7_told_74 h (fun b7 hr_b7 hk_b7 h => ?_)
        refine lv_iload_n F.1 F.2.1 dX7_told_77 rfl (lv_at hl 1 rfl) ?_
        refine r_ald F I hr_b7 hk_b7 dX7_told_78 h (fun z8 h => ?_)
        exact r_ireturn F I ⟨hr.1, hr.2.1, trivial⟩ h dX7_told_79
      · rw [if_neg c1] at h
        by_cases c2 : a2 = (2 : Int32)
        · rw [if_pos c2] at h
          refine lv_tableIn (off := 65) (tgt := 80) F.1 F.2.1 dX7_told_15 (by rw [c2]; decide) (by rw [c2]; decide) (by rw [c2]; rfl) (by decide) ?_
          refine lv_aload_n F.1 F.2.1 dX7_told_80 rfl (lv_at hl 0 rfl) ?_
          refine r_getN F I hr_a0 hk_a0 fX7_10 (f := 0) rfl (by decide) dX7_told_81 h (fun b9 hr_b9 hk_b9 h => ?_)
          refine r_getN F I hr_b9 hk_b9 fX7_95 (f := 9) rfl (by decide) dX7_told_84 h (fun b10 hr_b10 hk_b10 h => ?_)
          refine lv_iload_n F.1 F.2.1 dX7_told_87 rfl (lv_at hl 1 rfl) ?_
          refine r_ald F I hr_b10 hk_b10 dX7_told_88 h (fun z11 h => ?_)
          exact r_ireturn F I ⟨hr.1, hr.2.1, trivial⟩ h dX7_told_89
        · rw [if_neg c2] at h
          by_cases c3 : a2 = (3 : Int32)
          · rw [if_pos c3] at h
            refine lv_tableIn (off := 75) (tgt := 90) F.1 F.2.1 dX7_told_15 (by rw [c3]; decide) (by rw [c3]; decide) (by rw [c3]; rfl) (by decide) ?_
            refine lv_aload_n F.1 F.2.1 dX7_told_90 rfl (lv_at hl 0 rfl) ?_
            refine r_getN F I hr_a0 hk_a0 fX7_10 (f := 0) rfl (by decide) dX7_told_91 h (fun b12 hr_b12 hk_b12 h => ?_)
            refine r_getN F I hr_b12 hk_b12 fX7_98 (f := 9) rfl (by decide) dX7_told_94 h (fun b13 hr_b13 hk_b13 h => ?_)
            refine lv_iload_n F.1 F.2.1 dX7_told_97 rfl (lv_at hl 1 rfl) ?_
            refine r_ald F I hr_b13 hk_b13 dX7_told_98 h (fun z14 h => ?_)
            exact r_ireturn F I ⟨hr.1, hr.2.1, trivial⟩ h dX7_told_99
          · rw [if_neg c3] at h
            by_cases c4 : a2 = (4 : Int32)
            · rw [if_pos c4] at h
              refine lv_tableIn (off := 85) (tgt := 100) F.1 F.2.1 dX7_told_15 (by rw [c4]; decide) (by rw [c4]; decide) (by rw [c4]; rfl) (by decide) ?_
              refine lv_aload_n F.1 F.2.1 dX7_told_100 rfl (lv_at hl 0 rfl) ?_
              refine r_getN F I hr_a0 hk_a0 fX7_10 (f := 0) rfl (by decide) dX7_told_101 h (fun b15 hr_b15 hk_b15 h => ?_)
              refine r_getN F I hr_b15 hk_b15 fX7_101 (f := 9) rfl (by decide) dX7_told_104 h (fun b16 hr_b16 hk_b16 h => ?_)
              refine lv_iload_n F.1 F.2.1 dX7_told_107 rfl (lv_at hl 1 rfl) ?_
              refine r_ald F I hr_b16 hk_b16 dX7_told_108 h (fun z17 h => ?_)
              exact r_ireturn F I ⟨hr.1, hr.2.1, trivial⟩ h dX7_told_109
            · rw [if_neg c4] at h
              by_cases c5 : a2 = (5 : Int32)
              · rw [if_pos c5] at h
                refine lv_tableIn (off := 95) (tgt := 110) F.1 F.2.1 dX7_told_15 (by rw [c5]; decide) (by rw [c5]; decide) (by rw [c5]; rfl) (by decide) ?_
                refine lv_aload_n F.1 F.2.1 dX7_told_110 rfl (lv_at hl 0 rfl) ?_
                refine r_getN F I hr_a0 hk_a0 fX7_10 (f := 0) rfl (by decide) dX7_told_111 h (fun b18 hr_b18 hk_b18 h => ?_)
                refine r_getN F I hr_b18 hk_b18 fX7_104 (f := 9) rfl (by decide) dX7_told_114 h (fun b19 hr_b19 hk_b19 h => ?_)
                refine lv_iload_n F.1 F.2.1 dX7_told_117 rfl (lv_at hl 1 rfl) ?_
                refine r_ald F I hr_b19 hk_b19 dX7_told_118 h (fun z20 h => ?_)
                exact r_ireturn F I ⟨hr.1, hr.2.1, trivial⟩ h dX7_told_119
              · rw [if_neg c5] at h
                by_cases c6 : a2 = (6 : Int32)
                · rw [if_pos c6] at h
                  refine lv_tableIn (off := 105) (tgt := 120) F.1 F.2.1 dX7_told_15 (by rw [c6]; decide) (by rw [c6]; decide) (by rw [c6]; rfl) (by decide) ?_
                  refine lv_aload_n F.1 F.2.1 dX7_told_120 rfl (lv_at hl 0 rfl) ?_
                  refine r_getN F I hr_a0 hk_a0 fX7_10 (f := 0) rfl (by decide) dX7_told_121 h (fun b21 hr_b21 hk_b21 h => ?_)
                  refine lv_iload_n F.1 F.2.1 dX7_told_124 rfl (lv_at hl 1 rfl) ?_
                  refine g_I I (run_V (As := [.int a1]) (rest := []) F I hr_b21 hk_b21 (by decide) kX7_107 (ctX0_isHeiress hr_b21 hk_b21 h) ⟨rfl, rfl⟩ ⟨Nat.le_of_ble_eq_true rfl, Nat.le_of_ble_eq_true rfl⟩ rfl hl.1 rfl (Nat.le_of_ble_eq_true rfl) ⟨Nat.le_of_ble_eq_true rfl, Nat.le_of_ble_eq_true rfl⟩ dX7_told_125) (fun z22 S H locs I h => ?_)
                  refine r_if_eq (tgt := 135) F dX7_told_128 (by decide) h (fun h => ?_) (fun h => ?_)
                  · refine lv_iconst (v := 0) F.1 F.2.1 dX7_told_135 (by decide) ?_
                    exact r_ireturn F I ⟨hr.1, hr.2.1, trivial⟩ h dX7_told_136
                  · refine lv_iconst (v := 1) F.1 F.2.1 dX7_told_131 (by decide) ?_
                    refine lv_goto (tgt := 136) F.1 F.2.1 dX7_told_132 (by decide) ?_
                    exact r_ireturn F I ⟨hr.1, hr.2.1, trivial⟩ h dX7_told_136
                · rw [if_neg c6] at h
                  by_cases c7 : a2 = (7 : Int32)
                  · rw [if_pos c7] at h
                    refine lv_tableIn (off := 122) (tgt := 137) F.1 F.2.1 dX7_told_15 (by rw [c7]; decide) (by rw [c7]; decide) (by rw [c7]; rfl) (by decide) ?_
                    refine lv_aload_n F.1 F.2.1 dX7_told_137 rfl (lv_at hl 0 rfl) ?_
                    refine r_getN F I hr_a0 hk_a0 fX7_10 (f := 0) rfl (by decide) dX7_told_138 h (fun b23 hr_b23 hk_b23 h => ?_)
                    refine r_getN F I hr_b23 hk_b23 fX7_89 (f := 9) rfl (by decide) dX7_told_141 h (fun b24 hr_b24 hk_b24 h => ?_)
                    refine lv_iload_n F.1 F.2.1 dX7_told_144 rfl (lv_at hl 1 rfl) ?_
                    refine r_ald F I hr_b24 hk_b24 dX7_told_145 h (fun z25 h => ?_)
                    refine lv_aload_n F.1 F.2.1 dX7_told_146 rfl (lv_at hl 0 rfl) ?_
                    refine r_getN F I hr_a0 hk_a0 fX7_10 (f := 0) rfl (by decide) dX7_told_147 h (fun b26 hr_b26 hk_b26 h => ?_)
                    refine r_getN F I hr_b26 hk_b26 fX7_101 (f := 9) rfl (by decide) dX7_told_150 h (fun b27 hr_b27 hk_b27 h => ?_)
                    refine lv_iload_n F.1 F.2.1 dX7_told_153 rfl (lv_at hl 1 rfl) ?_
                    refine r_ald F I hr_b27 hk_b27 dX7_told_154 h (fun z28 h => ?_)
                    refine g_I I (run_S (As := [.int z25, .int z28]) (rest := []) F I kX7_110 (ctX7_worthOf h) ⟨rfl, rfl⟩ ⟨Nat.le_of_ble_eq_true rfl, Nat.le_of_ble_eq_true rfl⟩ rfl hl.1 rfl (Nat.le_of_ble_eq_true rfl) ⟨Nat.le_of_ble_eq_true rfl, Nat.le_of_ble_eq_true rfl⟩ dX7_told_155) (fun z29 S H locs I h => ?_)
                    exact r_ireturn F I ⟨hr.1, hr.2.1, trivial⟩ h dX7_told_158
                  · rw [if_neg c7] at h
                    have e0 := lv_neT (a := 0) c0 (by decide)
                    have e1 := lv_neT (a := 1) c1 (by decide)
                    have e2 := lv_neT (a := 2) c2 (by decide)
                    have e3 := lv_neT (a := 3) c3 (by decide)
                    have e4 := lv_neT (a := 4) c4 (by decide)
                    have e5 := lv_neT (a := 5) c5 (by decide)
                    have e6 := lv_neT (a := 6) c6 (by decide)
                    have e7 := lv_neT (a := 7) c7 (by decide)
                    refine lv_tableOut (tgt := 159) F.1 F.2.1 dX7_told_15 (by omega) (by decide) ?_
                    refine lv_ldc F.1 F.2.1 F.2.2.2.1 (F.2.2.2.2 _ tw_334) dX7_told_159 ?_
                    exact r_ireturn F I ⟨hr.1, hr.2.1, trivial⟩ h dX7_told_161
  · refine lv_ldc F.1 F.2.1 F.2.2.2.1 (F.2.2.2.2 _ tw_334) dX7_told_11 ?_
    exact r_ireturn F I ⟨hr.1, hr.2.1, trivial⟩ h dX7_told_13
theorem bdX7_bears_0 : ∀ q ∈ ([(0, .aload_n 0, 1), (1, .getfield 10, 3), (4, .iload_n 1, 1), (5, .invokevirtual 86, 3), (8, .ifCond .eq 10, 3), (11, .iload_n 2, 1), (12, .invokestatic 74, 3), (15, .ifCond .ne 6, 3), (18, .ldc 73, 2), (20, .ireturn, 1), (21, .aload_n 0, 1), (22, .getfield 29, 3), (25, .aload_n 0, 1), (26, .getfield 10, 3), (29, .invokevirtual 114, 3), (32, .aload_n 0, 1), (33, .getfield 29, 3), (36, .iload_n 2, 1), (37, .invokevirtual 118, 3), (40, .aload_n 0, 1), (41, .getfield 29, 3), (44, .iload_n 1, 1), (45, .iload_n 2, 1), (46, .invokevirtual 122, 3), (49, .ireturn, 1)] : List (Nat × Jvm.ClassFile.Instr × Nat)), decode cX7_bears q.1 = .ok q.2 := chk_ok _ 0 _ rfl (by decide +kernel)
theorem dX7_bears_0 : decode cX7_bears 0 = .ok (.aload_n 0, 1) := bdX7_bears_0 (0, .aload_n 0, 1) (List.mem_of_getElem? (i := 0) rfl)
theorem dX7_bears_1 : decode cX7_bears 1 = .ok (.getfield 10, 3) := bdX7_bears_0 (1, .getfield 10, 3) (List.mem_of_getElem? (i := 1) rfl)
theorem dX7_bears_4 : decode cX7_bears 4 = .ok (.iload_n 1, 1) := bdX7_bears_0 (4, .iload_n 1, 1) (List.mem_of_getElem? (i := 2) rfl)
theorem dX7_bears_5 : decode cX7_bears 5 = .ok (.invokevirtual 86, 3) := bdX7_bears_0 (5, .invokevirtual 86, 3) (List.mem_of_getElem? (i := 3) rfl)
theorem dX7_bears_8 : decode cX7_bears 8 = .ok (.ifCond .eq 10, 3) := bdX7_bears_0 (8, .ifCond .eq 10, 3) (List.mem_of_getElem? (i := 4) rfl)
theorem dX7_bears_11 : decode cX7_bears 11 = .ok (.iload_n 2, 1) := bdX7_bears_0 (11, .iload_n 2, 1) (List.mem_of_getElem? (i := 5) rfl)
theorem dX7_bears_12 : decode cX7_bears 12 = .ok (.invokestatic 74, 3) := bdX7_bears_0 (12, .invokestatic 74, 3) (List.mem_of_getElem? (i := 6) rfl)
theorem dX7_bears_15 : decode cX7_bears 15 = .ok (.ifCond .ne 6, 3) := bdX7_bears_0 (15, .ifCond .ne 6, 3) (List.mem_of_getElem? (i := 7) rfl)
theorem dX7_bears_18 : decode cX7_bears 18 = .ok (.ldc 73, 2) := bdX7_bears_0 (18, .ldc 73, 2) (List.mem_of_getElem? (i := 8) rfl)
theorem dX7_bears_20 : decode cX7_bears 20 = .ok (.ireturn, 1) := bdX7_bears_0 (20, .ireturn, 1) (List.mem_of_getElem? (i := 9) rfl)
theorem dX7_bears_21 : decode cX7_bears 21 = .ok (.aload_n 0, 1) := bdX7_bears_0 (21, .aload_n 0, 1) (List.mem_of_getElem? (i := 10) rfl)
theorem dX7_bears_22 : decode cX7_bears 22 = .ok (.getfield 29, 3) := bdX7_bears_0 (22, .getfield 29, 3) (List.mem_of_getElem? (i := 11) rfl)
theorem dX7_bears_25 : decode cX7_bears 25 = .ok (.aload_n 0, 1) := bdX7_bears_0 (25, .aload_n 0, 1) (List.mem_of_getElem? (i := 12) rfl)
theorem dX7_bears_26 : decode cX7_bears 26 = .ok (.getfield 10, 3) := bdX7_bears_0 (26, .getfield 10, 3) (List.mem_of_getElem? (i := 13) rfl)
theorem dX7_bears_29 : decode cX7_bears 29 = .ok (.invokevirtual 114, 3) := bdX7_bears_0 (29, .invokevirtual 114, 3) (List.mem_of_getElem? (i := 14) rfl)
theorem dX7_bears_32 : decode cX7_bears 32 = .ok (.aload_n 0, 1) := bdX7_bears_0 (32, .aload_n 0, 1) (List.mem_of_getElem? (i := 15) rfl)
theorem dX7_bears_33 : decode cX7_bears 33 = .ok (.getfield 29, 3) := bdX7_bears_0 (33, .getfield 29, 3) (List.mem_of_getElem? (i := 16) rfl)
theorem dX7_bears_36 : decode cX7_bears 36 = .ok (.iload_n 2, 1) := bdX7_bears_0 (36, .iload_n 2, 1) (List.mem_of_getElem? (i := 17) rfl)
theorem dX7_bears_37 : decode cX7_bears 37 = .ok (.invokevirtual 118, 3) := bdX7_bears_0 (37, .invokevirtual 118, 3) (List.mem_of_getElem? (i := 18) rfl)
theorem dX7_bears_40 : decode cX7_bears 40 = .ok (.aload_n 0, 1) := bdX7_bears_0 (40, .aload_n 0, 1) (List.mem_of_getElem? (i := 19) rfl)
theorem dX7_bears_41 : decode cX7_bears 41 = .ok (.getfield 29, 3) := bdX7_bears_0 (41, .getfield 29, 3) (List.mem_of_getElem? (i := 20) rfl)
theorem dX7_bears_44 : decode cX7_bears 44 = .ok (.iload_n 1, 1) := bdX7_bears_0 (44, .iload_n 1, 1) (List.mem_of_getElem? (i := 21) rfl)
theorem dX7_bears_45 : decode cX7_bears 45 = .ok (.iload_n 2, 1) := bdX7_bears_0 (45, .iload_n 2, 1) (List.mem_of_getElem? (i := 22) rfl)
theorem dX7_bears_46 : decode cX7_bears 46 = .ok (.invokevirtual 122, 3) := bdX7_bears_0 (46, .invokevirtual 122, 3) (List.mem_of_getElem? (i := 23) rfl)
theorem dX7_bears_49 : decode cX7_bears 49 = .ok (.ireturn, 1) := bdX7_bears_0 (49, .ireturn, 1) (List.mem_of_getElem? (i := 24) rfl)
theorem kX7_122 : mthV RX7 122 4 yX4_shown prog_6_method_9_code 3 (Option.some Jvm.ClassFile.FieldType.int) 2 := ⟨⟨⟨tw_425, tw_62, tw_428⟩, rfl, by decide +kernel⟩, tw_426, tw_427, rfl⟩
def BX7_bears_18 (ln : Nat → Nat) (post : Int32 → HC → Prop) (S : HC)  : Prop := post (-1000000001 : Int32) S
def wpX7_bears (ln : Nat → Nat) (S : HC) (a0 : Nat) (a1 : Int32) (a2 : Int32) (post : Int32 → HC → Prop) : Prop := dn_ (hR S a0 0) fun b1 => wpX0_has ln S b1 a1 fun z2 S => if z2 = 0 then (BX7_bears_18 ln post S) else (wpX7_isCharge ln S a2 fun z3 S => if z3 = 0 then (BX7_bears_18 ln post S) else (dn_ (hR S a0 4) fun b4 => dn_ (hR S a0 0) fun b5 => wpX4_lookAt ln S b4 b5 fun S => dn_ (hR S a0 4) fun b6 => wpX4_workOut ln S b6 a2 fun S => dn_ (hR S a0 4) fun b7 => wpX4_shown ln S b7 a1 a2 fun z8 S => post z8 S))
abbrev rmX7_bears : Room := { frames := 5, cells := 0, slots := 0, locals := 121 }
set_option maxHeartbeats 4000000 in
set_option maxRecDepth 100000 in
theorem ctX7_bears {l : Launch} {g : GX} {N : Nat} {ln : Nat → Nat} {S : HC} {a0 : Nat} {a1 : Int32} {a2 : Int32} {post : Int32 → HC → Prop} (hr_a0 : a0 < N) (hk_a0 : kd a0 = 7) (h : wpX7_bears ln S a0 a1 a2 post) : Met l yX7_bears (Cond.code yX7_bears prog_1_method_4_code 3 (Option.some Jvm.ClassFile.FieldType.int) :: gtbl) rmX7_bears (va_Pc [.ref (gz g + a0), .int a1, .int a2] (AtP g N ln S)) (QI g N ln post) 0 0 (gF g) := by
  refine m_of (by decide) (Nat.le_of_ble_eq_true rfl) ?_
  intro p e s m below meth c ls F hr I hl
  have hl : lv_has ls 3 [(0, .ref (gz g + a0)), (1, .int a1), (2, .int a2)] := hl
  unfold wpX7_bears at h
  have hj_18 : ∀ (S : HC) (H : Heap) (locs : List Loc) (ls : Array Slot), BX7_bears_18 ln post S  → Inv g N ln S s H locs → lv_has ls 3 [] → W p l e rmX7_bears s m ([.ref (gz g + a0), .int a1, .int a2] : List Value).toArray below meth c H locs 0 0 (MQ below (QI g N ln post) ([.ref (gz g + a0), .int a1, .int a2] : List Value).toArray s 0 0 (gF g)) (F0 m 18 ls []) := by
    intro S H locs ls h I hl
    unfold BX7_bears_18 at h
    refine lv_ldc F.1 F.2.1 F.2.2.2.1 (F.2.2.2.2 _ tw_334) dX7_bears_18 ?_
    exact r_ireturn F I ⟨hr.1, hr.2.1, trivial⟩ h dX7_bears_20
  refine lv_aload_n F.1 F.2.1 dX7_bears_0 rfl (lv_at hl 0 rfl) ?_
  refine r_getN F I hr_a0 hk_a0 fX7_10 (f := 0) rfl (by decide) dX7_bears_1 h (fun b1 hr_b1 hk_b1 h => ?_)
  refine lv_iload_n F.1 F.2.1 dX7_bears_4 rfl (lv_at hl 1 rfl) ?_
  refine g_I I (run_V (As := [.int a1]) (rest := []) F I hr_b1 hk_b1 (by decide) kX7_86 (ctX0_has hr_b1 hk_b1 h) ⟨rfl, rfl⟩ ⟨Nat.le_of_ble_eq_true rfl, Nat.le_of_ble_eq_true rfl⟩ rfl hl.1 rfl (Nat.le_of_ble_eq_true rfl) ⟨Nat.le_of_ble_eq_true rfl, Nat.le_of_ble_eq_true rfl⟩ dX7_bears_5) (fun z2 S H locs I h => ?_)
  refine r_if_eq (tgt := 18) F dX7_bears_8 (by decide) h (fun h => ?_) (fun h => ?_)
  · exact hj_18 S _ _ _   h I (lv_sub hl [] rfl)
  · refine lv_iload_n F.1 F.2.1 dX7_bears_11 rfl (lv_at hl 2 rfl) ?_
    refine g_I I (run_S (As := [.int a2]) (rest := []) F I kX7_74 (ctX7_isCharge h) ⟨rfl, rfl⟩ ⟨Nat.le_of_ble_eq_true rfl, Nat.le_of_ble_eq_true rfl⟩ rfl hl.1 rfl (Nat.le_of_ble_eq_true rfl) ⟨Nat.le_of_ble_eq_true rfl, Nat.le_of_ble_eq_true rfl⟩ dX7_bears_12) (fun z3 S H locs I h => ?_)
    refine r_if_ne (tgt := 21) F dX7_bears_15 (by decide) h (fun h => ?_) (fun h => ?_)
    · refine lv_aload_n F.1 F.2.1 dX7_bears_21 rfl (lv_at hl 0 rfl) ?_
      refine r_getN F I hr_a0 hk_a0 fX7_29 (f := 4) rfl (by decide) dX7_bears_22 h (fun b4 hr_b4 hk_b4 h => ?_)
      refine lv_aload_n F.1 F.2.1 dX7_bears_25 rfl (lv_at hl 0 rfl) ?_
      refine r_getN F I hr_a0 hk_a0 fX7_10 (f := 0) rfl (by decide) dX7_bears_26 h (fun b5 hr_b5 hk_b5 h => ?_)
      refine g_V I (run_V (As := [.ref (gz g + b5)]) (rest := []) F I hr_b4 hk_b4 (by decide) kX7_114 (ctX4_lookAt hr_b4 hk_b4 hr_b5 hk_b5 h) ⟨rfl, rfl⟩ ⟨Nat.le_of_ble_eq_true rfl, Nat.le_of_ble_eq_true rfl⟩ rfl hl.1 rfl (Nat.le_of_ble_eq_true rfl) ⟨Nat.le_of_ble_eq_true rfl, Nat.le_of_ble_eq_true rfl⟩ dX7_bears_29) (fun S H locs I h => ?_)
      refine lv_aload_n F.1 F.2.1 dX7_bears_32 rfl (lv_at hl 0 rfl) ?_
      refine r_getN F I hr_a0 hk_a0 fX7_29 (f := 4) rfl (by decide) dX7_bears_33 h (fun b6 hr_b6 hk_b6 h => ?_)
      refine lv_iload_n F.1 F.2.1 dX7_bears_36 rfl (lv_at hl 2 rfl) ?_
      refine g_V I (run_V (As := [.int a2]) (rest := []) F I hr_b6 hk_b6 (by decide) kX7_118 (ctX4_workOut hr_b6 hk_b6 h) ⟨rfl, rfl⟩ ⟨Nat.le_of_ble_eq_true rfl, Nat.le_of_ble_eq_true rfl⟩ rfl hl.1 rfl (Nat.le_of_ble_eq_true rfl) ⟨Nat.le_of_ble_eq_true rfl, Nat.le_of_ble_eq_true rfl⟩ dX7_bears_37) (fun S H locs I h => ?_)
      refine lv_aload_n F.1 F.2.1 dX7_bears_40 rfl (lv_at hl 0 rfl) ?_
      refine r_getN F I hr_a0 hk_a0 fX7_29 (f := 4) rfl (by decide) dX7_bears_41 h (fun b7 hr_b7 hk_b7 h => ?_)
      refine lv_iload_n F.1 F.2.1 dX7_bears_44 rfl (lv_at hl 1 rfl) ?_
      refine lv_iload_n F.1 F.2.1 dX7_bears_45 rfl (lv_at hl 2 rfl) ?_
      refine g_I I (run_V (As := [.int a1, .int a2]) (rest := []) F I hr_b7 hk_b7 (by decide) kX7_122 (ctX4_shown hr_b7 hk_b7 h) ⟨rfl, rfl⟩ ⟨Nat.le_of_ble_eq_true rfl, Nat.le_of_ble_eq_true rfl⟩ rfl hl.1 rfl (Nat.le_of_ble_eq_true rfl) ⟨Nat.le_of_ble_eq_true rfl, Nat.le_of_ble_eq_true rfl⟩ dX7_bears_46) (fun z8 S H locs I h => ?_)
      exact r_ireturn F I ⟨hr.1, hr.2.1, trivial⟩ h dX7_bears_49
    · exact hj_18 S _ _ _   h I (lv_sub hl [] rfl)
theorem bdX7_as_0 : ∀ q ∈ ([(0, .aload_n 0, 1), (1, .getfield 10, 3), (4, .iload_n 1, 1), (5, .invokevirtual 86, 3), (8, .ifCond .eq 10, 3), (11, .iload_n 2, 1), (12, .invokestatic 65, 3), (15, .ifCond .ne 6, 3), (18, .ldc 73, 2), (20, .ireturn, 1), (21, .aload_n 0, 1), (22, .getfield 10, 3), (25, .getfield 89, 3), (28, .iload_n 1, 1), (29, .iaload, 1), (30, .iload_n 2, 1), (31, .invokestatic 125, 3), (34, .ifCond .eq 15, 3), (37, .aload_n 0, 1), (38, .getfield 10, 3), (41, .getfield 101, 3), (44, .iload_n 1, 1), (45, .iaload, 1), (46, .goto 5, 3), (49, .ldc 128, 2), (51, .ireturn, 1)] : List (Nat × Jvm.ClassFile.Instr × Nat)), decode cX7_as q.1 = .ok q.2 := chk_ok _ 0 _ rfl (by decide +kernel)
theorem dX7_as_0 : decode cX7_as 0 = .ok (.aload_n 0, 1) := bdX7_as_0 (0, .aload_n 0, 1) (List.mem_of_getElem? (i := 0) rfl)
theorem dX7_as_1 : decode cX7_as 1 = .ok (.getfield 10, 3) := bdX7_as_0 (1, .getfield 10, 3) (List.mem_of_getElem? (i := 1) rfl)
theorem dX7_as_4 : decode cX7_as 4 = .ok (.iload_n 1, 1) := bdX7_as_0 (4, .iload_n 1, 1) (List.mem_of_getElem? (i := 2) rfl)
theorem dX7_as_5 : decode cX7_as 5 = .ok (.invokevirtual 86, 3) := bdX7_as_0 (5, .invokevirtual 86, 3) (List.mem_of_getElem? (i := 3) rfl)
theorem dX7_as_8 : decode cX7_as 8 = .ok (.ifCond .eq 10, 3) := bdX7_as_0 (8, .ifCond .eq 10, 3) (List.mem_of_getElem? (i := 4) rfl)
theorem dX7_as_11 : decode cX7_as 11 = .ok (.iload_n 2, 1) := bdX7_as_0 (11, .iload_n 2, 1) (List.mem_of_getElem? (i := 5) rfl)
theorem dX7_as_12 : decode cX7_as 12 = .ok (.invokestatic 65, 3) := bdX7_as_0 (12, .invokestatic 65, 3) (List.mem_of_getElem? (i := 6) rfl)
theorem dX7_as_15 : decode cX7_as 15 = .ok (.ifCond .ne 6, 3) := bdX7_as_0 (15, .ifCond .ne 6, 3) (List.mem_of_getElem? (i := 7) rfl)
theorem dX7_as_18 : decode cX7_as 18 = .ok (.ldc 73, 2) := bdX7_as_0 (18, .ldc 73, 2) (List.mem_of_getElem? (i := 8) rfl)
theorem dX7_as_20 : decode cX7_as 20 = .ok (.ireturn, 1) := bdX7_as_0 (20, .ireturn, 1) (List.mem_of_getElem? (i := 9) rfl)
theorem dX7_as_21 : decode cX7_as 21 = .ok (.aload_n 0, 1) := bdX7_as_0 (21, .aload_n 0, 1) (List.mem_of_getElem? (i := 10) rfl)
theorem dX7_as_22 : decode cX7_as 22 = .ok (.getfield 10, 3) := bdX7_as_0 (22, .getfield 10, 3) (List.mem_of_getElem? (i := 11) rfl)
theorem dX7_as_25 : decode cX7_as 25 = .ok (.getfield 89, 3) := bdX7_as_0 (25, .getfield 89, 3) (List.mem_of_getElem? (i := 12) rfl)
theorem dX7_as_28 : decode cX7_as 28 = .ok (.iload_n 1, 1) := bdX7_as_0 (28, .iload_n 1, 1) (List.mem_of_getElem? (i := 13) rfl)
theorem dX7_as_29 : decode cX7_as 29 = .ok (.iaload, 1) := bdX7_as_0 (29, .iaload, 1) (List.mem_of_getElem? (i := 14) rfl)
theorem dX7_as_30 : decode cX7_as 30 = .ok (.iload_n 2, 1) := bdX7_as_0 (30, .iload_n 2, 1) (List.mem_of_getElem? (i := 15) rfl)
theorem dX7_as_31 : decode cX7_as 31 = .ok (.invokestatic 125, 3) := bdX7_as_0 (31, .invokestatic 125, 3) (List.mem_of_getElem? (i := 16) rfl)
theorem dX7_as_34 : decode cX7_as 34 = .ok (.ifCond .eq 15, 3) := bdX7_as_0 (34, .ifCond .eq 15, 3) (List.mem_of_getElem? (i := 17) rfl)
theorem dX7_as_37 : decode cX7_as 37 = .ok (.aload_n 0, 1) := bdX7_as_0 (37, .aload_n 0, 1) (List.mem_of_getElem? (i := 18) rfl)
theorem dX7_as_38 : decode cX7_as 38 = .ok (.getfield 10, 3) := bdX7_as_0 (38, .getfield 10, 3) (List.mem_of_getElem? (i := 19) rfl)
theorem dX7_as_41 : decode cX7_as 41 = .ok (.getfield 101, 3) := bdX7_as_0 (41, .getfield 101, 3) (List.mem_of_getElem? (i := 20) rfl)
theorem dX7_as_44 : decode cX7_as 44 = .ok (.iload_n 1, 1) := bdX7_as_0 (44, .iload_n 1, 1) (List.mem_of_getElem? (i := 21) rfl)
theorem dX7_as_45 : decode cX7_as 45 = .ok (.iaload, 1) := bdX7_as_0 (45, .iaload, 1) (List.mem_of_getElem? (i := 22) rfl)
theorem dX7_as_46 : decode cX7_as 46 = .ok (.goto 5, 3) := bdX7_as_0 (46, .goto 5, 3) (List.mem_of_getElem? (i := 23) rfl)
theorem dX7_as_49 : decode cX7_as 49 = .ok (.ldc 128, 2) := bdX7_as_0 (49, .ldc 128, 2) (List.mem_of_getElem? (i := 24) rfl)
theorem dX7_as_51 : decode cX7_as 51 = .ok (.ireturn, 1) := bdX7_as_0 (51, .ireturn, 1) (List.mem_of_getElem? (i := 25) rfl)
theorem kX7_125 : mthS RX7 125 yX7_isOfKind prog_1_method_52_code 4 (Option.some Jvm.ClassFile.FieldType.boolean) 2 := ⟨⟨⟨tw_433, tw_60, tw_435⟩, rfl, by decide +kernel⟩, tw_434⟩
def BX7_as_18 (ln : Nat → Nat) (post : Int32 → HC → Prop) (S : HC)  : Prop := post (-1000000001 : Int32) S
def wpX7_as (ln : Nat → Nat) (S : HC) (a0 : Nat) (a1 : Int32) (a2 : Int32) (post : Int32 → HC → Prop) : Prop := dn_ (hR S a0 0) fun b1 => wpX0_has ln S b1 a1 fun z2 S => if z2 = 0 then (BX7_as_18 ln post S) else (wpX7_isKind ln S a2 fun z3 S => if z3 = 0 then (BX7_as_18 ln post S) else (dn_ (hR S a0 0) fun b4 => dn_ (hR S b4 0) fun b5 => al_ (ln b5) a1 (hI S b5) fun z6 => wpX7_isOfKind ln S z6 a2 fun z7 S => if z7 = 0 then (post (-1000000012 : Int32) S) else (dn_ (hR S a0 0) fun b8 => dn_ (hR S b8 4) fun b9 => al_ (ln b9) a1 (hI S b9) fun z10 => post z10 S)))
abbrev rmX7_as : Room := { frames := 2, cells := 0, slots := 0, locals := 43 }
set_option maxHeartbeats 4000000 in
set_option maxRecDepth 100000 in
theorem ctX7_as {l : Launch} {g : GX} {N : Nat} {ln : Nat → Nat} {S : HC} {a0 : Nat} {a1 : Int32} {a2 : Int32} {post : Int32 → HC → Prop} (hr_a0 : a0 < N) (hk_a0 : kd a0 = 7) (h : wpX7_as ln S a0 a1 a2 post) : Met l yX7_as (Cond.code yX7_as prog_1_method_5_code 3 (Option.some Jvm.ClassFile.FieldType.int) :: gtbl) rmX7_as (va_Pc [.ref (gz g + a0), .int a1, .int a2] (AtP g N ln S)) (QI g N ln post) 0 0 (gF g) := by
  refine m_of (by decide) (Nat.le_of_ble_eq_true rfl) ?_
  intro p e s m below meth c ls F hr I hl
  have hl : lv_has ls 3 [(0, .ref (gz g + a0)), (1, .int a1), (2, .int a2)] := hl
  unfold wpX7_as at h
  have hj_18 : ∀ (S : HC) (H : Heap) (locs : List Loc) (ls : Array Slot), BX7_as_18 ln post S  → Inv g N ln S s H locs → lv_has ls 3 [] → W p l e rmX7_as s m ([.ref (gz g + a0), .int a1, .int a2] : List Value).toArray below meth c H locs 0 0 (MQ below (QI g N ln post) ([.ref (gz g + a0), .int a1, .int a2] : List Value).toArray s 0 0 (gF g)) (F0 m 18 ls []) := by
    intro S H locs ls h I hl
    unfold BX7_as_18 at h
    refine lv_ldc F.1 F.2.1 F.2.2.2.1 (F.2.2.2.2 _ tw_334) dX7_as_18 ?_
    exact r_ireturn F I ⟨hr.1, hr.2.1, trivial⟩ h dX7_as_20
  refine lv_aload_n F.1 F.2.1 dX7_as_0 rfl (lv_at hl 0 rfl) ?_
  refine r_getN F I hr_a0 hk_a0 fX7_10 (f := 0) rfl (by decide) dX7_as_1 h (fun b1 hr_b1 hk_b1 h => ?_)
  refine lv_iload_n F.1 F.2.1 dX7_as_4 rfl (lv_at hl 1 rfl) ?_
  refine g_I I (run_V (As := [.int a1]) (rest := []) F I hr_b1 hk_b1 (by decide) kX7_86 (ctX0_has hr_b1 hk_b1 h) ⟨rfl, rfl⟩ ⟨Nat.le_of_ble_eq_true rfl, Nat.le_of_ble_eq_true rfl⟩ rfl hl.1 rfl (Nat.le_of_ble_eq_true rfl) ⟨Nat.le_of_ble_eq_true rfl, Nat.le_of_ble_eq_true rfl⟩ dX7_as_5) (fun z2 S H locs I h => ?_)
  refine r_if_eq (tgt := 18) F dX7_as_8 (by decide) h (fun h => ?_) (fun h => ?_)
  · exact hj_18 S _ _ _   h I (lv_sub hl [] rfl)
  · refine lv_iload_n F.1 F.2.1 dX7_as_11 rfl (lv_at hl 2 rfl) ?_
    refine g_I I (run_S (As := [.int a2]) (rest := []) F I kX7_65 (ctX7_isKind h) ⟨rfl, rfl⟩ ⟨Nat.le_of_ble_eq_true rfl, Nat.le_of_ble_eq_true rfl⟩ rfl hl.1 rfl (Nat.le_of_ble_eq_true rfl) ⟨Nat.le_of_ble_eq_true rfl, Nat.le_of_ble_eq_true rfl⟩ dX7_as_12) (fun z3 S H locs I h => ?_)
    refine r_if_ne (tgt := 21) F dX7_as_15 (by decide) h (fun h => ?_) (fun h => ?_)
    · refine lv_aload_n F.1 F.2.1 dX7_as_21 rfl (lv_at hl 0 rfl) ?_
      refine r_getN F I hr_a0 hk_a0 fX7_10 (f := 0) rfl (by decide) dX7_as_22 h (fun b4 hr_b4 hk_b4 h => ?_)
      refine r_getN F I hr_b4 hk_b4 fX7_89 (f := 9) rfl (by decide) dX7_as_25 h (fun b5 hr_b5 hk_b5 h => ?_)
      refine lv_iload_n F.1 F.2.1 dX7_as_28 rfl (lv_at hl 1 rfl) ?_
      refine r_ald F I hr_b5 hk_b5 dX7_as_29 h (fun z6 h => ?_)
      refine lv_iload_n F.1 F.2.1 dX7_as_30 rfl (lv_at hl 2 rfl) ?_
      refine g_I I (run_S (As := [.int z6, .int a2]) (rest := []) F I kX7_125 (ctX7_isOfKind h) ⟨rfl, rfl⟩ ⟨Nat.le_of_ble_eq_true rfl, Nat.le_of_ble_eq_true rfl⟩ rfl hl.1 rfl (Nat.le_of_ble_eq_true rfl) ⟨Nat.le_of_ble_eq_true rfl, Nat.le_of_ble_eq_true rfl⟩ dX7_as_31) (fun z7 S H locs I h => ?_)
      refine r_if_eq (tgt := 49) F dX7_as_34 (by decide) h (fun h => ?_) (fun h => ?_)
      · refine lv_ldc F.1 F.2.1 F.2.2.2.1 (F.2.2.2.2 _ tw_438) dX7_as_49 ?_
        exact r_ireturn F I ⟨hr.1, hr.2.1, trivial⟩ h dX7_as_51
      · refine lv_aload_n F.1 F.2.1 dX7_as_37 rfl (lv_at hl 0 rfl) ?_
        refine r_getN F I hr_a0 hk_a0 fX7_10 (f := 0) rfl (by decide) dX7_as_38 h (fun b8 hr_b8 hk_b8 h => ?_)
        refine r_getN F I hr_b8 hk_b8 fX7_101 (f := 9) rfl (by decide) dX7_as_41 h (fun b9 hr_b9 hk_b9 h => ?_)
        refine lv_iload_n F.1 F.2.1 dX7_as_44 rfl (lv_at hl 1 rfl) ?_
        refine r_ald F I hr_b9 hk_b9 dX7_as_45 h (fun z10 h => ?_)
        refine lv_goto (tgt := 51) F.1 F.2.1 dX7_as_46 (by decide) ?_
        exact r_ireturn F I ⟨hr.1, hr.2.1, trivial⟩ h dX7_as_51
    · exact hj_18 S _ _ _   h I (lv_sub hl [] rfl)
theorem bdX7_turns_0 : ∀ q ∈ ([(0, .aload_n 0, 1), (1, .getfield 10, 3), (4, .iload_n 1, 1), (5, .invokevirtual 86, 3), (8, .ifCond .eq 10, 3), (11, .iload_n 2, 1), (12, .invokestatic 65, 3), (15, .ifCond .ne 6, 3), (18, .ldc 73, 2), (20, .ireturn, 1), (21, .aload_n 0, 1), (22, .getfield 10, 3), (25, .getfield 89, 3), (28, .iload_n 1, 1), (29, .iaload, 1), (30, .istore_n 3, 1), (31, .aload_n 0, 1), (32, .getfield 10, 3), (35, .getfield 89, 3), (38, .iload_n 1, 1), (39, .iload_n 2, 1), (40, .iastore, 1), (41, .iload_n 3, 1), (42, .ireturn, 1)] : List (Nat × Jvm.ClassFile.Instr × Nat)), decode cX7_turns q.1 = .ok q.2 := chk_ok _ 0 _ rfl (by decide +kernel)
theorem dX7_turns_0 : decode cX7_turns 0 = .ok (.aload_n 0, 1) := bdX7_turns_0 (0, .aload_n 0, 1) (List.mem_of_getElem? (i := 0) rfl)
theorem dX7_turns_1 : decode cX7_turns 1 = .ok (.getfield 10, 3) := bdX7_turns_0 (1, .getfield 10, 3) (List.mem_of_getElem? (i := 1) rfl)
theorem dX7_turns_4 : decode cX7_turns 4 = .ok (.iload_n 1, 1) := bdX7_turns_0 (4, .iload_n 1, 1) (List.mem_of_getElem? (i := 2) rfl)
theorem dX7_turns_5 : decode cX7_turns 5 = .ok (.invokevirtual 86, 3) := bdX7_turns_0 (5, .invokevirtual 86, 3) (List.mem_of_getElem? (i := 3) rfl)
theorem dX7_turns_8 : decode cX7_turns 8 = .ok (.ifCond .eq 10, 3) := bdX7_turns_0 (8, .ifCond .eq 10, 3) (List.mem_of_getElem? (i := 4) rfl)
theorem dX7_turns_11 : decode cX7_turns 11 = .ok (.iload_n 2, 1) := bdX7_turns_0 (11, .iload_n 2, 1) (List.mem_of_getElem? (i := 5) rfl)
theorem dX7_turns_12 : decode cX7_turns 12 = .ok (.invokestatic 65, 3) := bdX7_turns_0 (12, .invokestatic 65, 3) (List.mem_of_getElem? (i := 6) rfl)
theorem dX7_turns_15 : decode cX7_turns 15 = .ok (.ifCond .ne 6, 3) := bdX7_turns_0 (15, .ifCond .ne 6, 3) (List.mem_of_getElem? (i := 7) rfl)
theorem dX7_turns_18 : decode cX7_turns 18 = .ok (.ldc 73, 2) := bdX7_turns_0 (18, .ldc 73, 2) (List.mem_of_getElem? (i := 8) rfl)
theorem dX7_turns_20 : decode cX7_turns 20 = .ok (.ireturn, 1) := bdX7_turns_0 (20, .ireturn, 1) (List.mem_of_getElem? (i := 9) rfl)
theorem dX7_turns_21 : decode cX7_turns 21 = .ok (.aload_n 0, 1) := bdX7_turns_0 (21, .aload_n 0, 1) (List.mem_of_getElem? (i := 10) rfl)
theorem dX7_turns_22 : decode cX7_turns 22 = .ok (.getfield 10, 3) := bdX7_turns_0 (22, .getfield 10, 3) (List.mem_of_getElem? (i := 11) rfl)
theorem dX7_turns_25 : decode cX7_turns 25 = .ok (.getfield 89, 3) := bdX7_turns_0 (25, .getfield 89, 3) (List.mem_of_getElem? (i := 12) rfl)
theorem dX7_turns_28 : decode cX7_turns 28 = .ok (.iload_n 1, 1) := bdX7_turns_0 (28, .iload_n 1, 1) (List.mem_of_getElem? (i := 13) rfl)
theorem dX7_turns_29 : decode cX7_turns 29 = .ok (.iaload, 1) := bdX7_turns_0 (29, .iaload, 1) (List.mem_of_getElem? (i := 14) rfl)
theorem dX7_turns_30 : decode cX7_turns 30 = .ok (.istore_n 3, 1) := bdX7_turns_0 (30, .istore_n 3, 1) (List.mem_of_getElem? (i := 15) rfl)
theorem dX7_turns_31 : decode cX7_turns 31 = .ok (.aload_n 0, 1) := bdX7_turns_0 (31, .aload_n 0, 1) (List.mem_of_getElem? (i := 16) rfl)
theorem dX7_turns_32 : decode cX7_turns 32 = .ok (.getfield 10, 3) := bdX7_turns_0 (32, .getfield 10, 3) (List.mem_of_getElem? (i := 17) rfl)
theorem dX7_turns_35 : decode cX7_turns 35 = .ok (.getfield 89, 3) := bdX7_turns_0 (35, .getfield 89, 3) (List.mem_of_getElem? (i := 18) rfl)
theorem dX7_turns_38 : decode cX7_turns 38 = .ok (.iload_n 1, 1) := bdX7_turns_0 (38, .iload_n 1, 1) (List.mem_of_getElem? (i := 19) rfl)
theorem dX7_turns_39 : decode cX7_turns 39 = .ok (.iload_n 2, 1) := bdX7_turns_0 (39, .iload_n 2, 1) (List.mem_of_getElem? (i := 20) rfl)
theorem dX7_turns_40 : decode cX7_turns 40 = .ok (.iastore, 1) := bdX7_turns_0 (40, .iastore, 1) (List.mem_of_getElem? (i := 21) rfl)
theorem dX7_turns_41 : decode cX7_turns 41 = .ok (.iload_n 3, 1) := bdX7_turns_0 (41, .iload_n 3, 1) (List.mem_of_getElem? (i := 22) rfl)
theorem dX7_turns_42 : decode cX7_turns 42 = .ok (.ireturn, 1) := bdX7_turns_0 (42, .ireturn, 1) (List.mem_of_getElem? (i := 23) rfl)
def BX7_turns_18 (ln : Nat → Nat) (post : Int32 → HC → Prop) (S : HC)  : Prop := post (-1000000001 : Int32) S
def wpX7_turns (ln : Nat → Nat) (S : HC) (a0 : Nat) (a1 : Int32) (a2 : Int32) (post : Int32 → HC → Prop) : Prop := dn_ (hR S a0 0) fun b1 => wpX0_has ln S b1 a1 fun z2 S => if z2 = 0 then (BX7_turns_18 ln post S) else (wpX7_isKind ln S a2 fun z3 S => if z3 = 0 then (BX7_turns_18 ln post S) else (dn_ (hR S a0 0) fun b4 => dn_ (hR S b4 0) fun b5 => al_ (ln b5) a1 (hI S b5) fun z6 => dn_ (hR S a0 0) fun b7 => dn_ (hR S b7 0) fun b8 => as_ (ln b8) a1 (fun j => sI S b8 j a2) fun S => post z6 S))
abbrev rmX7_turns : Room := { frames := 1, cells := 0, slots := 0, locals := 21 }
set_option maxHeartbeats 4000000 in
set_option maxRecDepth 100000 in
theorem ctX7_turns {l : Launch} {g : GX} {N : Nat} {ln : Nat → Nat} {S : HC} {a0 : Nat} {a1 : Int32} {a2 : Int32} {post : Int32 → HC → Prop} (hr_a0 : a0 < N) (hk_a0 : kd a0 = 7) (h : wpX7_turns ln S a0 a1 a2 post) : Met l yX7_turns (Cond.code yX7_turns prog_1_method_6_code 4 (Option.some Jvm.ClassFile.FieldType.int) :: gtbl) rmX7_turns (va_Pc [.ref (gz g + a0), .int a1, .int a2] (AtP g N ln S)) (QI g N ln post) 0 0 (gF g) := by
  refine m_of (by decide) (Nat.le_of_ble_eq_true rfl) ?_
  intro p e s m below meth c ls F hr I hl
  have hl : lv_has ls 4 [(0, .ref (gz g + a0)), (1, .int a1), (2, .int a2)] := hl
  unfold wpX7_turns at h
  have hj_18 : ∀ (S : HC) (H : Heap) (locs : List Loc) (ls : Array Slot), BX7_turns_18 ln post S  → Inv g N ln S s H locs → lv_has ls 4 [] → W p l e rmX7_turns s m ([.ref (gz g + a0), .int a1, .int a2] : List Value).toArray below meth c H locs 0 0 (MQ below (QI g N ln post) ([.ref (gz g + a0), .int a1, .int a2] : List Value).toArray s 0 0 (gF g)) (F0 m 18 ls []) := by
    intro S H locs ls h I hl
    unfold BX7_turns_18 at h
    refine lv_ldc F.1 F.2.1 F.2.2.2.1 (F.2.2.2.2 _ tw_334) dX7_turns_18 ?_
    exact r_ireturn F I ⟨hr.1, hr.2.1, trivial⟩ h dX7_turns_20
  refine lv_aload_n F.1 F.2.1 dX7_turns_0 rfl (lv_at hl 0 rfl) ?_
  refine r_getN F I hr_a0 hk_a0 fX7_10 (f := 0) rfl (by decide) dX7_turns_1 h (fun b1 hr_b1 hk_b1 h => ?_)
  refine lv_iload_n F.1 F.2.1 dX7_turns_4 rfl (lv_at hl 1 rfl) ?_
  refine g_I I (run_V (As := [.int a1]) (rest := []) F I hr_b1 hk_b1 (by decide) kX7_86 (ctX0_has hr_b1 hk_b1 h) ⟨rfl, rfl⟩ ⟨Nat.le_of_ble_eq_true rfl, Nat.le_of_ble_eq_true rfl⟩ rfl hl.1 rfl (Nat.le_of_ble_eq_true rfl) ⟨Nat.le_of_ble_eq_true rfl, Nat.le_of_ble_eq_true rfl⟩ dX7_turns_5) (fun z2 S H locs I h => ?_)
  refine r_if_eq (tgt := 18) F dX7_turns_8 (by decide) h (fun h => ?_) (fun h => ?_)
  · exact hj_18 S _ _ _   h I (lv_sub hl [] rfl)
  · refine lv_iload_n F.1 F.2.1 dX7_turns_11 rfl (lv_at hl 2 rfl) ?_
    refine g_I I (run_S (As := [.int a2]) (rest := []) F I kX7_65 (ctX7_isKind h) ⟨rfl, rfl⟩ ⟨Nat.le_of_ble_eq_true rfl, Nat.le_of_ble_eq_true rfl⟩ rfl hl.1 rfl (Nat.le_of_ble_eq_true rfl) ⟨Nat.le_of_ble_eq_true rfl, Nat.le_of_ble_eq_true rfl⟩ dX7_turns_12) (fun z3 S H locs I h => ?_)
    refine r_if_ne (tgt := 21) F dX7_turns_15 (by decide) h (fun h => ?_) (fun h => ?_)
    · refine lv_aload_n F.1 F.2.1 dX7_turns_21 rfl (lv_at hl 0 rfl) ?_
      refine r_getN F I hr_a0 hk_a0 fX7_10 (f := 0) rfl (by decide) dX7_turns_22 h (fun b4 hr_b4 hk_b4 h => ?_)
      refine r_getN F I hr_b4 hk_b4 fX7_89 (f := 9) rfl (by decide) dX7_turns_25 h (fun b5 hr_b5 hk_b5 h => ?_)
      refine lv_iload_n F.1 F.2.1 dX7_turns_28 rfl (lv_at hl 1 rfl) ?_
      refine r_ald F I hr_b5 hk_b5 dX7_turns_29 h (fun z6 h => ?_)
      refine lv_istore_n (lv' := [(3, .int z6), (0, .ref (gz g + a0)), (1, .int a1), (2, .int a2)]) F.1 F.2.1 dX7_turns_30 rfl hl (by decide) rfl (fun ls hl => ?_)
      refine lv_aload_n F.1 F.2.1 dX7_turns_31 rfl (lv_at hl 1 rfl) ?_
      refine r_getN F I hr_a0 hk_a0 fX7_10 (f := 0) rfl (by decide) dX7_turns_32 h (fun b7 hr_b7 hk_b7 h => ?_)
      refine r_getN F I hr_b7 hk_b7 fX7_89 (f := 9) rfl (by decide) dX7_turns_35 h (fun b8 hr_b8 hk_b8 h => ?_)
      refine lv_iload_n F.1 F.2.1 dX7_turns_38 rfl (lv_at hl 2 rfl) ?_
      refine lv_iload_n F.1 F.2.1 dX7_turns_39 rfl (lv_at hl 3 rfl) ?_
      refine r_ast F I hr_b8 hk_b8 dX7_turns_40 h (fun S H locs I h => ?_)
      refine lv_iload_n F.1 F.2.1 dX7_turns_41 rfl (lv_at hl 0 rfl) ?_
      exact r_ireturn F I ⟨hr.1, hr.2.1, trivial⟩ h dX7_turns_42
    · exact hj_18 S _ _ _   h I (lv_sub hl [] rfl)
theorem bdX7_set_0 : ∀ q ∈ ([(0, .aload_n 0, 1), (1, .getfield 10, 3), (4, .iload_n 1, 1), (5, .invokevirtual 86, 3), (8, .ifCond .ne 6, 3), (11, .ldc 73, 2), (13, .ireturn, 1), (14, .iload_n 2, 1), (15, .iconst 4, 1), (16, .if_icmp .ne 34, 3), (19, .iload_n 3, 1), (20, .invokestatic 74, 3), (23, .ifCond .eq 27, 3), (26, .aload_n 0, 1), (27, .getfield 10, 3), (30, .getfield 101, 3), (33, .iload_n 1, 1), (34, .iaload, 1), (35, .istore 4, 2), (37, .aload_n 0, 1), (38, .getfield 10, 3), (41, .getfield 101, 3), (44, .iload_n 1, 1), (45, .iload_n 3, 1), (46, .iastore, 1), (47, .goto 47, 3), (50, .iload_n 2, 1), (51, .iconst 5, 1), (52, .if_icmp .ne 38, 3), (55, .iload_n 3, 1), (56, .ifCond .lt 34, 3), (59, .iload_n 3, 1), (60, .sipush 255, 3), (63, .if_icmp .gt 27, 3), (66, .aload_n 0, 1), (67, .getfield 10, 3), (70, .getfield 104, 3), (73, .iload_n 1, 1), (74, .iaload, 1), (75, .istore 4, 2)] : List (Nat × Jvm.ClassFile.Instr × Nat)), decode cX7_set q.1 = .ok q.2 := chk_ok _ 0 _ rfl (by decide +kernel)
theorem dX7_set_0 : decode cX7_set 0 = .ok (.aload_n 0, 1) := bdX7_set_0 (0, .aload_n 0, 1) (List.mem_of_getElem? (i := 0) rfl)
theorem dX7_set_1 : decode cX7_set 1 = .ok (.getfield 10, 3) := bdX7_set_0 (1, .getfield 10, 3) (List.mem_of_getElem? (i := 1) rfl)
theorem dX7_set_4 : decode cX7_set 4 = .ok (.iload_n 1, 1) := bdX7_set_0 (4, .iload_n 1, 1) (List.mem_of_getElem? (i := 2) rfl)
theorem dX7_set_5 : decode cX7_set 5 = .ok (.invokevirtual 86, 3) := bdX7_set_0 (5, .invokevirtual 86, 3) (List.mem_of_getElem? (i := 3) rfl)
theorem dX7_set_8 : decode cX7_set 8 = .ok (.ifCond .ne 6, 3) := bdX7_set_0 (8, .ifCond .ne 6, 3) (List.mem_of_getElem? (i := 4) rfl)
theorem dX7_set_11 : decode cX7_set 11 = .ok (.ldc 73, 2) := bdX7_set_0 (11, .ldc 73, 2) (List.mem_of_getElem? (i := 5) rfl)
theorem dX7_set_13 : decode cX7_set 13 = .ok (.ireturn, 1) := bdX7_set_0 (13, .ireturn, 1) (List.mem_of_getElem? (i := 6) rfl)
theorem dX7_set_14 : decode cX7_set 14 = .ok (.iload_n 2, 1) := bdX7_set_0 (14, .iload_n 2, 1) (List.mem_of_getElem? (i := 7) rfl)
theorem dX7_set_15 : decode cX7_set 15 = .ok (.iconst 4, 1) := bdX7_set_0 (15, .iconst 4, 1) (List.mem_of_getElem? (i := 8) rfl)
theorem dX7_set_16 : decode cX7_set 16 = .ok (.if_icmp .ne 34, 3) := bdX7_set_0 (16, .if_icmp .ne 34, 3) (List.mem_of_getElem? (i := 9) rfl)
theorem dX7_set_19 : decode cX7_set 19 = .ok (.iload_n 3, 1) := bdX7_set_0 (19, .iload_n 3, 1) (List.mem_of_getElem? (i := 10) rfl)
theorem dX7_set_20 : decode cX7_set 20 = .ok (.invokestatic 74, 3) := bdX7_set_0 (20, .invokestatic 74, 3) (List.mem_of_getElem? (i := 11) rfl)
theorem dX7_set_23 : decode cX7_set 23 = .ok (.ifCond .eq 27, 3) := bdX7_set_0 (23, .ifCond .eq 27, 3) (List.mem_of_getElem? (i := 12) rfl)
theorem dX7_set_26 : decode cX7_set 26 = .ok (.aload_n 0, 1) := bdX7_set_0 (26, .aload_n 0, 1) (List.mem_of_getElem? (i := 13) rfl)
theorem dX7_set_27 : decode cX7_set 27 = .ok (.getfield 10, 3) := bdX7_set_0 (27, .getfield 10, 3) (List.mem_of_getElem? (i := 14) rfl)
theorem dX7_set_30 : decode cX7_set 30 = .ok (.getfield 101, 3) := bdX7_set_0 (30, .getfield 101, 3) (List.mem_of_getElem? (i := 15) rfl)
theorem dX7_set_33 : decode cX7_set 33 = .ok (.iload_n 1, 1) := bdX7_set_0 (33, .iload_n 1, 1) (List.mem_of_getElem? (i := 16) rfl)
theorem dX7_set_34 : decode cX7_set 34 = .ok (.iaload, 1) := bdX7_set_0 (34, .iaload, 1) (List.mem_of_getElem? (i := 17) rfl)
theorem dX7_set_35 : decode cX7_set 35 = .ok (.istore 4, 2) := bdX7_set_0 (35, .istore 4, 2) (List.mem_of_getElem? (i := 18) rfl)
theorem dX7_set_37 : decode cX7_set 37 = .ok (.aload_n 0, 1) := bdX7_set_0 (37, .aload_n 0, 1) (List.mem_of_getElem? (i := 19) rfl)
theorem dX7_set_38 : decode cX7_set 38 = .ok (.getfield 10, 3) := bdX7_set_0 (38, .getfield 10, 3) (List.mem_of_getElem? (i := 20) rfl)
theorem dX7_set_41 : decode cX7_set 41 = .ok (.getfield 101, 3) := bdX7_set_0 (41, .getfield 101, 3) (List.mem_of_getElem? (i := 21) rfl)
theorem dX7_set_44 : decode cX7_set 44 = .ok (.iload_n 1, 1) := bdX7_set_0 (44, .iload_n 1, 1) (List.mem_of_getElem? (i := 22) rfl)
theorem dX7_set_45 : decode cX7_set 45 = .ok (.iload_n 3, 1) := bdX7_set_0 (45, .iload_n 3, 1) (List.mem_of_getElem? (i := 23) rfl)
theorem dX7_set_46 : decode cX7_set 46 = .ok (.iastore, 1) := bdX7_set_0 (46, .iastore, 1) (List.mem_of_getElem? (i := 24) rfl)
theorem dX7_set_47 : decode cX7_set 47 = .ok (.goto 47, 3) := bdX7_set_0 (47, .goto 47, 3) (List.mem_of_getElem? (i := 25) rfl)
theorem dX7_set_50 : decode cX7_set 50 = .ok (.iload_n 2, 1) := bdX7_set_0 (50, .iload_n 2, 1) (List.mem_of_getElem? (i := 26) rfl)
theorem dX7_set_51 : decode cX7_set 51 = .ok (.iconst 5, 1) := bdX7_set_0 (51, .iconst 5, 1) (List.mem_of_getElem? (i := 27) rfl)
theorem dX7_set_52 : decode cX7_set 52 = .ok (.if_icmp .ne 38, 3) := bdX7_set_0 (52, .if_icmp .ne 38, 3) (List.mem_of_getElem? (i := 28) rfl)
theorem dX7_set_55 : decode cX7_set 55 = .ok (.iload_n 3, 1) := bdX7_set_0 (55, .iload_n 3, 1) (List.mem_of_getElem? (i := 29) rfl)
theorem dX7_set_56 : decode cX7_set 56 = .ok (.ifCond .lt 34, 3) := bdX7_set_0 (56, .ifCond .lt 34, 3) (List.mem_of_getElem? (i := 30) rfl)
theorem dX7_set_59 : decode cX7_set 59 = .ok (.iload_n 3, 1) := bdX7_set_0 (59, .iload_n 3, 1) (List.mem_of_getElem? (i := 31) rfl)
theorem dX7_set_60 : decode cX7_set 60 = .ok (.sipush 255, 3) := bdX7_set_0 (60, .sipush 255, 3) (List.mem_of_getElem? (i := 32) rfl)
theorem dX7_set_63 : decode cX7_set 63 = .ok (.if_icmp .gt 27, 3) := bdX7_set_0 (63, .if_icmp .gt 27, 3) (List.mem_of_getElem? (i := 33) rfl)
theorem dX7_set_66 : decode cX7_set 66 = .ok (.aload_n 0, 1) := bdX7_set_0 (66, .aload_n 0, 1) (List.mem_of_getElem? (i := 34) rfl)
theorem dX7_set_67 : decode cX7_set 67 = .ok (.getfield 10, 3) := bdX7_set_0 (67, .getfield 10, 3) (List.mem_of_getElem? (i := 35) rfl)
theorem dX7_set_70 : decode cX7_set 70 = .ok (.getfield 104, 3) := bdX7_set_0 (70, .getfield 104, 3) (List.mem_of_getElem? (i := 36) rfl)
theorem dX7_set_73 : decode cX7_set 73 = .ok (.iload_n 1, 1) := bdX7_set_0 (73, .iload_n 1, 1) (List.mem_of_getElem? (i := 37) rfl)
theorem dX7_set_74 : decode cX7_set 74 = .ok (.iaload, 1) := bdX7_set_0 (74, .iaload, 1) (List.mem_of_getElem? (i := 38) rfl)
theorem dX7_set_75 : decode cX7_set 75 = .ok (.istore 4, 2) := bdX7_set_0 (75, .istore 4, 2) (List.mem_of_getElem? (i := 39) rfl)
theorem bdX7_set_77 : ∀ q ∈ ([(77, .aload_n 0, 1), (78, .getfield 10, 3), (81, .getfield 104, 3), (84, .iload_n 1, 1), (85, .iload_n 3, 1), (86, .iastore, 1), (87, .goto 7, 3), (90, .ldc 73, 2), (92, .istore 4, 2), (94, .iload 4, 2), (96, .ireturn, 1)] : List (Nat × Jvm.ClassFile.Instr × Nat)), decode cX7_set q.1 = .ok q.2 := chk_ok _ 77 _ rfl (by decide +kernel)
theorem dX7_set_77 : decode cX7_set 77 = .ok (.aload_n 0, 1) := bdX7_set_77 (77, .aload_n 0, 1) (List.mem_of_getElem? (i := 0) rfl)
theorem dX7_set_78 : decode cX7_set 78 = .ok (.getfield 10, 3) := bdX7_set_77 (78, .getfield 10, 3) (List.mem_of_getElem? (i := 1) rfl)
theorem dX7_set_81 : decode cX7_set 81 = .ok (.getfield 104, 3) := bdX7_set_77 (81, .getfield 104, 3) (List.mem_of_getElem? (i := 2) rfl)
theorem dX7_set_84 : decode cX7_set 84 = .ok (.iload_n 1, 1) := bdX7_set_77 (84, .iload_n 1, 1) (List.mem_of_getElem? (i := 3) rfl)
theorem dX7_set_85 : decode cX7_set 85 = .ok (.iload_n 3, 1) := bdX7_set_77 (85, .iload_n 3, 1) (List.mem_of_getElem? (i := 4) rfl)
theorem dX7_set_86 : decode cX7_set 86 = .ok (.iastore, 1) := bdX7_set_77 (86, .iastore, 1) (List.mem_of_getElem? (i := 5) rfl)
theorem dX7_set_87 : decode cX7_set 87 = .ok (.goto 7, 3) := bdX7_set_77 (87, .goto 7, 3) (List.mem_of_getElem? (i := 6) rfl)
theorem dX7_set_90 : decode cX7_set 90 = .ok (.ldc 73, 2) := bdX7_set_77 (90, .ldc 73, 2) (List.mem_of_getElem? (i := 7) rfl)
theorem dX7_set_92 : decode cX7_set 92 = .ok (.istore 4, 2) := bdX7_set_77 (92, .istore 4, 2) (List.mem_of_getElem? (i := 8) rfl)
theorem dX7_set_94 : decode cX7_set 94 = .ok (.iload 4, 2) := bdX7_set_77 (94, .iload 4, 2) (List.mem_of_getElem? (i := 9) rfl)
theorem dX7_set_96 : decode cX7_set 96 = .ok (.ireturn, 1) := bdX7_set_77 (96, .ireturn, 1) (List.mem_of_getElem? (i := 10) rfl)
def BX7_set_94 (ln : Nat → Nat) (post : Int32 → HC → Prop) (S : HC) (x4 : Int32) : Prop := post x4 S
def BX7_set_90 (ln : Nat → Nat) (post : Int32 → HC → Prop) (S : HC)  : Prop := BX7_set_94 ln post S (-1000000001 : Int32)
def BX7_set_50 (ln : Nat → Nat) (post : Int32 → HC → Prop) (S : HC) (x0 : Nat) (x1 : Int32) (x2 : Int32) (x3 : Int32) : Prop := if x2 = (5 : Int32) then (if x3 < 0 then (BX7_set_90 ln post S) else (if (255 : Int32) < x3 then (BX7_set_90 ln post S) else (dn_ (hR S x0 0) fun b1 => dn_ (hR S b1 5) fun b2 => al_ (ln b2) x1 (hI S b2) fun z3 => dn_ (hR S x0 0) fun b4 => dn_ (hR S b4 5) fun b5 => as_ (ln b5) x1 (fun j => sI S b5 j x3) fun S => BX7_set_94 ln post S z3))) else (BX7_set_90 ln post S)
def wpX7_set (ln : Nat → Nat) (S : HC) (a0 : Nat) (a1 : Int32) (a2 : Int32) (a3 : Int32) (post : Int32 → HC → Prop) : Prop := dn_ (hR S a0 0) fun b6 => wpX0_has ln S b6 a1 fun z7 S => if z7 = 0 then (post (-1000000001 : Int32) S) else (if a2 = (4 : Int32) then (wpX7_isCharge ln S a3 fun z8 S => if z8 = 0 then (BX7_set_50 ln post S a0 a1 a2 a3) else (dn_ (hR S a0 0) fun b9 => dn_ (hR S b9 4) fun b10 => al_ (ln b10) a1 (hI S b10) fun z11 => dn_ (hR S a0 0) fun b12 => dn_ (hR S b12 4) fun b13 => as_ (ln b13) a1 (fun j => sI S b13 j a3) fun S => BX7_set_94 ln post S z11)) else (BX7_set_50 ln post S a0 a1 a2 a3))
abbrev rmX7_set : Room := { frames := 1, cells := 0, slots := 0, locals := 21 }
set_option maxHeartbeats 4000000 in
set_option maxRecDepth 100000 in
theorem ctX7_set {l : Launch} {g : GX} {N : Nat} {ln : Nat → Nat} {S : HC} {a0 : Nat} {a1 : Int32} {a2 : Int32} {a3 : Int32} {post : Int32 → HC → Prop} (hr_a0 : a0 < N) (hk_a0 : kd a0 = 7) (h : wpX7_set ln S a0 a1 a2 a3 post) : Met l yX7_set (Cond.code yX7_set prog_1_method_7_code 5 (Option.some Jvm.ClassFile.FieldType.int) :: gtbl) rmX7_set (va_Pc [.ref (gz g + a0), .int a1, .int a2, .int a3] (AtP g N ln S)) (QI g N ln post) 0 0 (gF g) := by
  refine m_of (by decide) (Nat.le_of_ble_eq_true rfl) ?_
  intro p e s m below meth c ls F hr I hl
  have hl : lv_has ls 5 [(0, .ref (gz g + a0)), (1, .int a1), (2, .int a2), (3, .int a3)] := hl
  unfold wpX7_set at h
  have hj_94 : ∀ (S : HC) (H : Heap) (locs : List Loc) (ls : Array Slot) (x4 : Int32), BX7_set_94 ln post S x4 → Inv g N ln S s H locs → lv_has ls 5 [(4, .int x4)] → W p l e rmX7_set s m ([.ref (gz g + a0), .int a1, .int a2, .int a3] : List Value).toArray below meth c H locs 0 0 (MQ below (QI g N ln post) ([.ref (gz g + a0), .int a1, .int a2, .int a3] : List Value).toArray s 0 0 (gF g)) (F0 m 94 ls []) := by
    intro S H locs ls x4 h I hl
    unfold BX7_set_94 at h
    refine lv_iload F.1 F.2.1 dX7_set_94 (lv_at hl 0 rfl) ?_
    exact r_ireturn F I ⟨hr.1, hr.2.1, trivial⟩ h dX7_set_96
  have hj_90 : ∀ (S : HC) (H : Heap) (locs : List Loc) (ls : Array Slot), BX7_set_90 ln post S  → Inv g N ln S s H locs → lv_has ls 5 [] → W p l e rmX7_set s m ([.ref (gz g + a0), .int a1, .int a2, .int a3] : List Value).toArray below meth c H locs 0 0 (MQ below (QI g N ln post) ([.ref (gz g + a0), .int a1, .int a2, .int a3] : List Value).toArray s 0 0 (gF g)) (F0 m 90 ls []) := by
    intro S H locs ls h I hl
    unfold BX7_set_90 at h
    refine lv_ldc F.1 F.2.1 F.2.2.2.1 (F.2.2.2.2 _ tw_334) dX7_set_90 ?_
    refine lv_istore (lv' := [(4, .int (-1000000001 : Int32))]) F.1 F.2.1 dX7_set_92 hl (by decide) rfl (fun ls hl => ?_)
    exact hj_94 S _ _ _ (-1000000001 : Int32)  h I (lv_sub hl [0] rfl)
  have hj_50 : ∀ (S : HC) (H : Heap) (locs : List Loc) (ls : Array Slot) (x0 : Nat) (x1 : Int32) (x2 : Int32) (x3 : Int32), x0 < N → kd x0 = 7 → BX7_set_50 ln post S x0 x1 x2 x3 → Inv g N ln S s H locs → lv_has ls 5 [(0, .ref (gz g + x0)), (1, .int x1), (2, .int x2), (3, .int x3)] → W p l e rmX7_set s m ([.ref (gz g + a0), .int a1, .int a2, .int a3] : List Value).toArray below meth c H locs 0 0 (MQ below (QI g N ln post) ([.ref (gz g + a0), .int a1, .int a2, .int a3] : List Value).toArray s 0 0 (gF g)) (F0 m 50 ls []) := by
    intro S H locs ls x0 x1 x2 x3 hr_x0 hk_x0 h I hl
    unfold BX7_set_50 at h
    refine lv_iload_n F.1 F.2.1 dX7_set_50 rfl (lv_at hl 2 rfl) ?_
    refine lv_iconst (v := 5) F.1 F.2.1 dX7_set_51 (by decide) ?_
    refine r_icmp_ne (tgt := 90) F dX7_set_52 (by decide) h (fun h => ?_) (fun h => ?_)
    · exact hj_90 S _ _ _   h I (lv_sub hl [] rfl)
    · refine lv_iload_n F.1 F.2.1 dX7_set_55 rfl (lv_at hl 3 rfl) ?_
      refine r_if_lt (tgt := 90) F dX7_set_56 (by decide) h (fun h => ?_) (fun h => ?_)
      · exact hj_90 S _ _ _   h I (lv_sub hl [] rfl)
      · refine lv_iload_n F.1 F.2.1 dX7_set_59 rfl (lv_at hl 3 rfl) ?_
        refine lv_sipush (v := 255) F.1 F.2.1 dX7_set_60 (by decide) ?_
        refine r_icmp_gt (tgt := 90) F dX7_set_63 (by decide) h (fun h => ?_) (fun h => ?_)
        · exact hj_90 S _ _ _   h I (lv_sub hl [] rfl)
        · refine lv_aload_n F.1 F.2.1 dX7_set_66 rfl (lv_at hl 0 rfl) ?_
          refine r_getN F I hr_x0 hk_x0 fX7_10 (f := 0) rfl (by decide) dX7_set_67 h (fun b1 hr_b1 hk_b1 h => ?_)
          refine r_getN F I hr_b1 hk_b1 fX7_104 (f := 9) rfl (by decide) dX7_set_70 h (fun b2 hr_b2 hk_b2 h => ?_)
          refine lv_iload_n F.1 F.2.1 dX7_set_73 rfl (lv_at hl 1 rfl) ?_
          refine r_ald F I hr_b2 hk_b2 dX7_set_74 h (fun z3 h => ?_)
          refine lv_istore (lv' := [(4, .int z3), (0, .ref (gz g + x0)), (1, .int x1), (2, .int x2), (3, .int x3)]) F.1 F.2.1 dX7_set_75 hl (by decide) rfl (fun ls hl => ?_)
          refine lv_aload_n F.1 F.2.1 dX7_set_77 rfl (lv_at hl 1 rfl) ?_
          refine r_getN F I hr_x0 hk_x0 fX7_10 (f := 0) rfl (by decide) dX7_set_78 h (fun b4 hr_b4 hk_b4 h => ?_)
          refine r_getN F I hr_b4 hk_b4 fX7_104 (f := 9) rfl (by decide) dX7_set_81 h (fun b5 hr_b5 hk_b5 h => ?_)
          refine lv_iload_n F.1 F.2.1 dX7_set_84 rfl (lv_at hl 2 rfl) ?_
          refine lv_iload_n F.1 F.2.1 dX7_set_85 rfl (lv_at hl 4 rfl) ?_
          refine r_ast F I hr_b5 hk_b5 dX7_set_86 h (fun S H locs I h => ?_)
          refine lv_goto (tgt := 94) F.1 F.2.1 dX7_set_87 (by decide) ?_
          exact hj_94 S _ _ _ z3  h I (lv_sub hl [0] rfl)
  refine lv_aload_n F.1 F.2.1 dX7_set_0 rfl (lv_at hl 0 rfl) ?_
  refine r_getN F I hr_a0 hk_a0 fX7_10 (f := 0) rfl (by decide) dX7_set_1 h (fun b6 hr_b6 hk_b6 h => ?_)
  refine lv_iload_n F.1 F.2.1 dX7_set_4 rfl (lv_at hl 1 rfl) ?_
  refine g_I I (run_V (As := [.int a1]) (rest := []) F I hr_b6 hk_b6 (by decide) kX7_86 (ctX0_has hr_b6 hk_b6 h) ⟨rfl, rfl⟩ ⟨Nat.le_of_ble_eq_true rfl, Nat.le_of_ble_eq_true rfl⟩ rfl hl.1 rfl (Nat.le_of_ble_eq_true rfl) ⟨Nat.le_of_ble_eq_true rfl, Nat.le_of_ble_eq_true rfl⟩ dX7_set_5) (fun z7 S H locs I h => ?_)
  refine r_if_ne (tgt := 14) F dX7_set_8 (by decide) h (fun h => ?_) (fun h => ?_)
  · refine lv_iload_n F.1 F.2.1 dX7_set_14 rfl (lv_at hl 2 rfl) ?_
    refine lv_iconst (v := 4) F.1 F.2.1 dX7_set_15 (by decide) ?_
    refine r_icmp_ne (tgt := 50) F dX7_set_16 (by decide) h (fun h => ?_) (fun h => ?_)
    · exact hj_50 S _ _ _ a0 a1 a2 a3 hr_a0 hk_a0 h I (lv_sub hl [0, 1, 2, 3] rfl)
    · refine lv_iload_n F.1 F.2.1 dX7_set_19 rfl (lv_at hl 3 rfl) ?_
      refine g_I I (run_S (As := [.int a3]) (rest := []) F I kX7_74 (ctX7_isCharge h) ⟨rfl, rfl⟩ ⟨Nat.le_of_ble_eq_true rfl, Nat.le_of_ble_eq_true rfl⟩ rfl hl.1 rfl (Nat.le_of_ble_eq_true rfl) ⟨Nat.le_of_ble_eq_true rfl, Nat.le_of_ble_eq_true rfl⟩ dX7_set_20) (fun z8 S H locs I h => ?_)
      refine r_if_eq (tgt := 50) F dX7_set_23 (by decide) h (fun h => ?_) (fun h => ?_)
      · exact hj_50 S _ _ _ a0 a1 a2 a3 hr_a0 hk_a0 h I (lv_sub hl [0, 1, 2, 3] rfl)
      · refine lv_aload_n F.1 F.2.1 dX7_set_26 rfl (lv_at hl 0 rfl) ?_
        refine r_getN F I hr_a0 hk_a0 fX7_10 (f := 0) rfl (by decide) dX7_set_27 h (fun b9 hr_b9 hk_b9 h => ?_)
        refine r_getN F I hr_b9 hk_b9 fX7_101 (f := 9) rfl (by decide) dX7_set_30 h (fun b10 hr_b10 hk_b10 h => ?_)
        refine lv_iload_n F.1 F.2.1 dX7_set_33 rfl (lv_at hl 1 rfl) ?_
        refine r_ald F I hr_b10 hk_b10 dX7_set_34 h (fun z11 h => ?_)
        refine lv_istore (lv' := [(4, .int z11), (0, .ref (gz g + a0)), (1, .int a1), (2, .int a2), (3, .int a3)]) F.1 F.2.1 dX7_set_35 hl (by decide) rfl (fun ls hl => ?_)
        refine lv_aload_n F.1 F.2.1 dX7_set_37 rfl (lv_at hl 1 rfl) ?_
        refine r_getN F I hr_a0 hk_a0 fX7_10 (f := 0) rfl (by decide) dX7_set_38 h (fun b12 hr_b12 hk_b12 h => ?_)
        refine r_getN F I hr_b12 hk_b12 fX7_101 (f := 9) rfl (by decide) dX7_set_41 h (fun b13 hr_b13 hk_b13 h => ?_)
        refine lv_iload_n F.1 F.2.1 dX7_set_44 rfl (lv_at hl 2 rfl) ?_
        refine lv_iload_n F.1 F.2.1 dX7_set_45 rfl (lv_at hl 4 rfl) ?_
        refine r_ast F I hr_b13 hk_b13 dX7_set_46 h (fun S H locs I h => ?_)
        refine lv_goto (tgt := 94) F.1 F.2.1 dX7_set_47 (by decide) ?_
        exact hj_94 S _ _ _ z11  h I (lv_sub hl [0] rfl)
  · refine lv_ldc F.1 F.2.1 F.2.2.2.1 (F.2.2.2.2 _ tw_334) dX7_set_11 ?_
    exact r_ireturn F I ⟨hr.1, hr.2.1, trivial⟩ h dX7_set_13
theorem bdX7_fertile_0 : ∀ q ∈ ([(0, .iload_n 1, 1), (1, .ifCond .lt 9, 3), (4, .iload_n 1, 1), (5, .bipush 100, 2), (7, .if_icmp .le 6, 3), (10, .ldc 73, 2), (12, .ireturn, 1), (13, .aload_n 0, 1), (14, .getfield 10, 3), (17, .getfield 129, 3), (20, .istore_n 2, 1), (21, .aload_n 0, 1), (22, .getfield 10, 3), (25, .iload_n 1, 1), (26, .putfield 129, 3), (29, .iload_n 2, 1), (30, .ireturn, 1)] : List (Nat × Jvm.ClassFile.Instr × Nat)), decode cX7_fertile q.1 = .ok q.2 := chk_ok _ 0 _ rfl (by decide +kernel)
theorem dX7_fertile_0 : decode cX7_fertile 0 = .ok (.iload_n 1, 1) := bdX7_fertile_0 (0, .iload_n 1, 1) (List.mem_of_getElem? (i := 0) rfl)
theorem dX7_fertile_1 : decode cX7_fertile 1 = .ok (.ifCond .lt 9, 3) := bdX7_fertile_0 (1, .ifCond .lt 9, 3) (List.mem_of_getElem? (i := 1) rfl)
theorem dX7_fertile_4 : decode cX7_fertile 4 = .ok (.iload_n 1, 1) := bdX7_fertile_0 (4, .iload_n 1, 1) (List.mem_of_getElem? (i := 2) rfl)
theorem dX7_fertile_5 : decode cX7_fertile 5 = .ok (.bipush 100, 2) := bdX7_fertile_0 (5, .bipush 100, 2) (List.mem_of_getElem? (i := 3) rfl)
theorem dX7_fertile_7 : decode cX7_fertile 7 = .ok (.if_icmp .le 6, 3) := bdX7_fertile_0 (7, .if_icmp .le 6, 3) (List.mem_of_getElem? (i := 4) rfl)
theorem dX7_fertile_10 : decode cX7_fertile 10 = .ok (.ldc 73, 2) := bdX7_fertile_0 (10, .ldc 73, 2) (List.mem_of_getElem? (i := 5) rfl)
theorem dX7_fertile_12 : decode cX7_fertile 12 = .ok (.ireturn, 1) := bdX7_fertile_0 (12, .ireturn, 1) (List.mem_of_getElem? (i := 6) rfl)
theorem dX7_fertile_13 : decode cX7_fertile 13 = .ok (.aload_n 0, 1) := bdX7_fertile_0 (13, .aload_n 0, 1) (List.mem_of_getElem? (i := 7) rfl)
theorem dX7_fertile_14 : decode cX7_fertile 14 = .ok (.getfield 10, 3) := bdX7_fertile_0 (14, .getfield 10, 3) (List.mem_of_getElem? (i := 8) rfl)
theorem dX7_fertile_17 : decode cX7_fertile 17 = .ok (.getfield 129, 3) := bdX7_fertile_0 (17, .getfield 129, 3) (List.mem_of_getElem? (i := 9) rfl)
theorem dX7_fertile_20 : decode cX7_fertile 20 = .ok (.istore_n 2, 1) := bdX7_fertile_0 (20, .istore_n 2, 1) (List.mem_of_getElem? (i := 10) rfl)
theorem dX7_fertile_21 : decode cX7_fertile 21 = .ok (.aload_n 0, 1) := bdX7_fertile_0 (21, .aload_n 0, 1) (List.mem_of_getElem? (i := 11) rfl)
theorem dX7_fertile_22 : decode cX7_fertile 22 = .ok (.getfield 10, 3) := bdX7_fertile_0 (22, .getfield 10, 3) (List.mem_of_getElem? (i := 12) rfl)
theorem dX7_fertile_25 : decode cX7_fertile 25 = .ok (.iload_n 1, 1) := bdX7_fertile_0 (25, .iload_n 1, 1) (List.mem_of_getElem? (i := 13) rfl)
theorem dX7_fertile_26 : decode cX7_fertile 26 = .ok (.putfield 129, 3) := bdX7_fertile_0 (26, .putfield 129, 3) (List.mem_of_getElem? (i := 14) rfl)
theorem dX7_fertile_29 : decode cX7_fertile 29 = .ok (.iload_n 2, 1) := bdX7_fertile_0 (29, .iload_n 2, 1) (List.mem_of_getElem? (i := 15) rfl)
theorem dX7_fertile_30 : decode cX7_fertile 30 = .ok (.ireturn, 1) := bdX7_fertile_0 (30, .ireturn, 1) (List.mem_of_getElem? (i := 16) rfl)
theorem fX7_129 : fldOK RX7 129 0 7 .int false := ⟨_, _, _, tyX0, ⟨rfl, iX0, by decide, rfl, by decide⟩, tw_114, ⟨tyX0_ok, nmX0⟩, by decide +kernel, rfl, rfl⟩
def BX7_fertile_10 (ln : Nat → Nat) (post : Int32 → HC → Prop) (S : HC)  : Prop := post (-1000000001 : Int32) S
def wpX7_fertile (ln : Nat → Nat) (S : HC) (a0 : Nat) (a1 : Int32) (post : Int32 → HC → Prop) : Prop := if a1 < 0 then (BX7_fertile_10 ln post S) else (if a1 ≤ (100 : Int32) then (dn_ (hR S a0 0) fun b1 => lt_ (hI S b1 7) fun z2 => dn_ (hR S a0 0) fun b3 => lt_ (sI S b3 7 a1) fun S => post z2 S) else (BX7_fertile_10 ln post S))
abbrev rmX7_fertile : Room := { frames := 0, cells := 0, slots := 0, locals := 0 }
set_option maxHeartbeats 4000000 in
set_option maxRecDepth 100000 in
theorem ctX7_fertile {l : Launch} {g : GX} {N : Nat} {ln : Nat → Nat} {S : HC} {a0 : Nat} {a1 : Int32} {post : Int32 → HC → Prop} (hr_a0 : a0 < N) (hk_a0 : kd a0 = 7) (h : wpX7_fertile ln S a0 a1 post) : Met l yX7_fertile (Cond.code yX7_fertile prog_1_method_8_code 3 (Option.some Jvm.ClassFile.FieldType.int) :: gtbl) rmX7_fertile (va_Pc [.ref (gz g + a0), .int a1] (AtP g N ln S)) (QI g N ln post) 0 0 (gF g) := by
  refine m_of (by decide) (Nat.le_of_ble_eq_true rfl) ?_
  intro p e s m below meth c ls F hr I hl
  have hl : lv_has ls 3 [(0, .ref (gz g + a0)), (1, .int a1)] := hl
  unfold wpX7_fertile at h
  have hj_10 : ∀ (S : HC) (H : Heap) (locs : List Loc) (ls : Array Slot), BX7_fertile_10 ln post S  → Inv g N ln S s H locs → lv_has ls 3 [] → W p l e rmX7_fertile s m ([.ref (gz g + a0), .int a1] : List Value).toArray below meth c H locs 0 0 (MQ below (QI g N ln post) ([.ref (gz g + a0), .int a1] : List Value).toArray s 0 0 (gF g)) (F0 m 10 ls []) := by
    intro S H locs ls h I hl
    unfold BX7_fertile_10 at h
    refine lv_ldc F.1 F.2.1 F.2.2.2.1 (F.2.2.2.2 _ tw_334) dX7_fertile_10 ?_
    exact r_ireturn F I ⟨hr.1, hr.2.1, trivial⟩ h dX7_fertile_12
  refine lv_iload_n F.1 F.2.1 dX7_fertile_0 rfl (lv_at hl 1 rfl) ?_
  refine r_if_lt (tgt := 10) F dX7_fertile_1 (by decide) h (fun h => ?_) (fun h => ?_)
  · exact hj_10 S _ _ _   h I (lv_sub hl [] rfl)
  · refine lv_iload_n F.1 F.2.1 dX7_fertile_4 rfl (lv_at hl 1 rfl) ?_
    refine lv_bipush (v := 100) F.1 F.2.1 dX7_fertile_5 (by decide) ?_
    refine r_icmp_le (tgt := 13) F dX7_fertile_7 (by decide) h (fun h => ?_) (fun h => ?_)
    · refine lv_aload_n F.1 F.2.1 dX7_fertile_13 rfl (lv_at hl 0 rfl) ?_
      refine r_getN F I hr_a0 hk_a0 fX7_10 (f := 0) rfl (by decide) dX7_fertile_14 h (fun b1 hr_b1 hk_b1 h => ?_)
      refine r_getI F I hr_b1 hk_b1 fX7_129 rfl dX7_fertile_17 h (fun z2 h => ?_)
      refine lv_istore_n (lv' := [(2, .int z2), (0, .ref (gz g + a0)), (1, .int a1)]) F.1 F.2.1 dX7_fertile_20 rfl hl (by decide) rfl (fun ls hl => ?_)
      refine lv_aload_n F.1 F.2.1 dX7_fertile_21 rfl (lv_at hl 1 rfl) ?_
      refine r_getN F I hr_a0 hk_a0 fX7_10 (f := 0) rfl (by decide) dX7_fertile_22 h (fun b3 hr_b3 hk_b3 h => ?_)
      refine lv_iload_n F.1 F.2.1 dX7_fertile_25 rfl (lv_at hl 2 rfl) ?_
      refine r_putI F I hr_b3 hk_b3 fX7_129 rfl (Or.inl rfl) ⟨rfl, rfl⟩ dX7_fertile_26 h (fun S H locs I h => ?_)
      refine lv_iload_n F.1 F.2.1 dX7_fertile_29 rfl (lv_at hl 0 rfl) ?_
      exact r_ireturn F I ⟨hr.1, hr.2.1, trivial⟩ h dX7_fertile_30
    · exact hj_10 S _ _ _   h I (lv_sub hl [] rfl)
theorem bdX7_deal_0 : ∀ q ∈ ([(0, .iload_n 1, 1), (1, .iconst 1, 1), (2, .if_icmp .lt 9, 3), (5, .iload_n 1, 1), (6, .bipush 14, 2), (8, .if_icmp .le 6, 3), (11, .ldc 73, 2), (13, .ireturn, 1), (14, .iconst 0, 1), (15, .istore_n 2, 1), (16, .iload_n 2, 1), (17, .iload_n 1, 1), (18, .if_icmp .ge 26, 3), (21, .aload_n 0, 1), (22, .getfield 10, 3), (25, .invokevirtual 77, 3), (28, .ifCond .eq 16, 3), (31, .aload_n 0, 1), (32, .getfield 10, 3), (35, .invokevirtual 132, 3), (38, .iinc 2 1, 3), (41, .goto (-25), 3), (44, .iload_n 2, 1), (45, .ireturn, 1)] : List (Nat × Jvm.ClassFile.Instr × Nat)), decode cX7_deal q.1 = .ok q.2 := chk_ok _ 0 _ rfl (by decide +kernel)
theorem dX7_deal_0 : decode cX7_deal 0 = .ok (.iload_n 1, 1) := bdX7_deal_0 (0, .iload_n 1, 1) (List.mem_of_getElem? (i := 0) rfl)
theorem dX7_deal_1 : decode cX7_deal 1 = .ok (.iconst 1, 1) := bdX7_deal_0 (1, .iconst 1, 1) (List.mem_of_getElem? (i := 1) rfl)
theorem dX7_deal_2 : decode cX7_deal 2 = .ok (.if_icmp .lt 9, 3) := bdX7_deal_0 (2, .if_icmp .lt 9, 3) (List.mem_of_getElem? (i := 2) rfl)
theorem dX7_deal_5 : decode cX7_deal 5 = .ok (.iload_n 1, 1) := bdX7_deal_0 (5, .iload_n 1, 1) (List.mem_of_getElem? (i := 3) rfl)
theorem dX7_deal_6 : decode cX7_deal 6 = .ok (.bipush 14, 2) := bdX7_deal_0 (6, .bipush 14, 2) (List.mem_of_getElem? (i := 4) rfl)
theorem dX7_deal_8 : decode cX7_deal 8 = .ok (.if_icmp .le 6, 3) := bdX7_deal_0 (8, .if_icmp .le 6, 3) (List.mem_of_getElem? (i := 5) rfl)
theorem dX7_deal_11 : decode cX7_deal 11 = .ok (.ldc 73, 2) := bdX7_deal_0 (11, .ldc 73, 2) (List.mem_of_getElem? (i := 6) rfl)
theorem dX7_deal_13 : decode cX7_deal 13 = .ok (.ireturn, 1) := bdX7_deal_0 (13, .ireturn, 1) (List.mem_of_getElem? (i := 7) rfl)
theorem dX7_deal_14 : decode cX7_deal 14 = .ok (.iconst 0, 1) := bdX7_deal_0 (14, .iconst 0, 1) (List.mem_of_getElem? (i := 8) rfl)
theorem dX7_deal_15 : decode cX7_deal 15 = .ok (.istore_n 2, 1) := bdX7_deal_0 (15, .istore_n 2, 1) (List.mem_of_getElem? (i := 9) rfl)
theorem dX7_deal_16 : decode cX7_deal 16 = .ok (.iload_n 2, 1) := bdX7_deal_0 (16, .iload_n 2, 1) (List.mem_of_getElem? (i := 10) rfl)
theorem dX7_deal_17 : decode cX7_deal 17 = .ok (.iload_n 1, 1) := bdX7_deal_0 (17, .iload_n 1, 1) (List.mem_of_getElem? (i := 11) rfl)
theorem dX7_deal_18 : decode cX7_deal 18 = .ok (.if_icmp .ge 26, 3) := bdX7_deal_0 (18, .if_icmp .ge 26, 3) (List.mem_of_getElem? (i := 12) rfl)
theorem dX7_deal_21 : decode cX7_deal 21 = .ok (.aload_n 0, 1) := bdX7_deal_0 (21, .aload_n 0, 1) (List.mem_of_getElem? (i := 13) rfl)
theorem dX7_deal_22 : decode cX7_deal 22 = .ok (.getfield 10, 3) := bdX7_deal_0 (22, .getfield 10, 3) (List.mem_of_getElem? (i := 14) rfl)
theorem dX7_deal_25 : decode cX7_deal 25 = .ok (.invokevirtual 77, 3) := bdX7_deal_0 (25, .invokevirtual 77, 3) (List.mem_of_getElem? (i := 15) rfl)
theorem dX7_deal_28 : decode cX7_deal 28 = .ok (.ifCond .eq 16, 3) := bdX7_deal_0 (28, .ifCond .eq 16, 3) (List.mem_of_getElem? (i := 16) rfl)
theorem dX7_deal_31 : decode cX7_deal 31 = .ok (.aload_n 0, 1) := bdX7_deal_0 (31, .aload_n 0, 1) (List.mem_of_getElem? (i := 17) rfl)
theorem dX7_deal_32 : decode cX7_deal 32 = .ok (.getfield 10, 3) := bdX7_deal_0 (32, .getfield 10, 3) (List.mem_of_getElem? (i := 18) rfl)
theorem dX7_deal_35 : decode cX7_deal 35 = .ok (.invokevirtual 132, 3) := bdX7_deal_0 (35, .invokevirtual 132, 3) (List.mem_of_getElem? (i := 19) rfl)
theorem dX7_deal_38 : decode cX7_deal 38 = .ok (.iinc 2 1, 3) := bdX7_deal_0 (38, .iinc 2 1, 3) (List.mem_of_getElem? (i := 20) rfl)
theorem dX7_deal_41 : decode cX7_deal 41 = .ok (.goto (-25), 3) := bdX7_deal_0 (41, .goto (-25), 3) (List.mem_of_getElem? (i := 21) rfl)
theorem dX7_deal_44 : decode cX7_deal 44 = .ok (.iload_n 2, 1) := bdX7_deal_0 (44, .iload_n 2, 1) (List.mem_of_getElem? (i := 22) rfl)
theorem dX7_deal_45 : decode cX7_deal 45 = .ok (.ireturn, 1) := bdX7_deal_0 (45, .ireturn, 1) (List.mem_of_getElem? (i := 23) rfl)
theorem kX7_132 : mthV RX7 132 0 yX0_drawFounder prog_2_method_8_code 3 (Option.none : Option Jvm.ClassFile.FieldType) 0 := ⟨⟨⟨tw_455, tw_61, tw_458⟩, rfl, by decide +kernel⟩, tw_456, tw_457, rfl⟩
def BX7_deal_44 (ln : Nat → Nat) (post : Int32 → HC → Prop) (S : HC) (x2 : Int32) : Prop := post x2 S
def LX7_deal_16 (ln : Nat → Nat) (post : Int32 → HC → Prop) : Nat → HC → Nat → Int32 → Int32 → Prop
  | 0 => fun _ _ _ _ => False
  | n16 + 1 => fun S x0 x1 x2 => if x1 ≤ x2 then (BX7_deal_44 ln post S x2) else (dn_ (hR S x0 0) fun b1 => wpX0_hasRoom ln S b1 fun z2 S => if z2 = 0 then (BX7_deal_44 ln post S x2) else (dn_ (hR S x0 0) fun b3 => wpX0_drawFounder ln S b3 fun S => lt_ (x2 + (1 : Int32)) fun z4 => (LX7_deal_16 ln post n16) S x0 x1 z4))
def BX7_deal_11 (ln : Nat → Nat) (post : Int32 → HC → Prop) (S : HC)  : Prop := post (-1000000001 : Int32) S
def wpX7_deal (ln : Nat → Nat) (S : HC) (a0 : Nat) (a1 : Int32) (post : Int32 → HC → Prop) : Prop := if a1 < (1 : Int32) then (BX7_deal_11 ln post S) else (if a1 ≤ (14 : Int32) then (∃ n16, LX7_deal_16 ln post n16 S a0 a1 (0 : Int32)) else (BX7_deal_11 ln post S))
abbrev rmX7_deal : Room := { frames := 3, cells := 0, slots := 0, locals := 68 }
set_option maxHeartbeats 4000000 in
set_option maxRecDepth 100000 in
theorem ctX7_deal {l : Launch} {g : GX} {N : Nat} {ln : Nat → Nat} {S : HC} {a0 : Nat} {a1 : Int32} {post : Int32 → HC → Prop} (hr_a0 : a0 < N) (hk_a0 : kd a0 = 7) (h : wpX7_deal ln S a0 a1 post) : Met l yX7_deal (Cond.code yX7_deal prog_1_method_9_code 3 (Option.some Jvm.ClassFile.FieldType.int) :: gtbl) rmX7_deal (va_Pc [.ref (gz g + a0), .int a1] (AtP g N ln S)) (QI g N ln post) 0 0 (gF g) := by
  refine m_of (by decide) (Nat.le_of_ble_eq_true rfl) ?_
  intro p e s m below meth c ls F hr I hl
  have hl : lv_has ls 3 [(0, .ref (gz g + a0)), (1, .int a1)] := hl
  unfold wpX7_deal at h
  have hj_44 : ∀ (S : HC) (H : Heap) (locs : List Loc) (ls : Array Slot) (x2 : Int32), BX7_deal_44 ln post S x2 → Inv g N ln S s H locs → lv_has ls 3 [(2, .int x2)] → W p l e rmX7_deal s m ([.ref (gz g + a0), .int a1] : List Value).toArray below meth c H locs 0 0 (MQ below (QI g N ln post) ([.ref (gz g + a0), .int a1] : List Value).toArray s 0 0 (gF g)) (F0 m 44 ls []) := by
    intro S H locs ls x2 h I hl
    unfold BX7_deal_44 at h
    refine lv_iload_n F.1 F.2.1 dX7_deal_44 rfl (lv_at hl 0 rfl) ?_
    exact r_ireturn F I ⟨hr.1, hr.2.1, trivial⟩ h dX7_deal_45
  have hl_16 : ∀ n16 : Nat, ∀ (S : HC) (H : Heap) (locs : List Loc) (ls : Array Slot) (x0 : Nat) (x1 : Int32) (x2 : Int32), x0 < N → kd x0 = 7 → LX7_deal_16 ln post n16 S x0 x1 x2 → Inv g N ln S s H locs → lv_has ls 3 [(0, .ref (gz g + x0)), (1, .int x1), (2, .int x2)] → W p l e rmX7_deal s m ([.ref (gz g + a0), .int a1] : List Value).toArray below meth c H locs 0 0 (MQ below (QI g N ln post) ([.ref (gz g + a0), .int a1] : List Value).toArray s 0 0 (gF g)) (F0 m 16 ls []) := by
    intro n16
    induction n16 with
    | zero =>
      intro S H locs ls x0 x1 x2 hr_x0 hk_x0 h I hl
      exact h.elim
    | succ n16 ih =>
      have hk16 := ih
      intro S H locs ls x0 x1 x2 hr_x0 hk_x0 h I hl
      rw [LX7_deal_16] at h
      refine lv_iload_n F.1 F.2.1 dX7_deal_16 rfl (lv_at hl 2 rfl) ?_
      refine lv_iload_n F.1 F.2.1 dX7_deal_17 rfl (lv_at hl 1 rfl) ?_
      refine r_icmp_ge (tgt := 44) F dX7_deal_18 (by decide) h (fun h => ?_) (fun h => ?_)
      · exact hj_44 S _ _ _ x2  h I (lv_sub hl [2] rfl)
      · refine lv_aload_n F.1 F.2.1 dX7_deal_21 rfl (lv_at hl 0 rfl) ?_
        refine r_getN F I hr_x0 hk_x0 fX7_10 (f := 0) rfl (by decide) dX7_deal_22 h (fun b1 hr_b1 hk_b1 h => ?_)
        refine g_I I (run_V (As := []) (rest := []) F I hr_b1 hk_b1 (by decide) kX7_77 (ctX0_hasRoom hr_b1 hk_b1 h) ⟨rfl, rfl⟩ ⟨Nat.le_of_ble_eq_true rfl, Nat.le_of_ble_eq_true rfl⟩ rfl hl.1 rfl (Nat.le_of_ble_eq_true rfl) ⟨Nat.le_of_ble_eq_true rfl, Nat.le_of_ble_eq_true rfl⟩ dX7_deal_25) (fun z2 S H locs I h => ?_)
        refine r_if_eq (tgt := 44) F dX7_deal_28 (by decide) h (fun h => ?_) (fun h => ?_)
        · exact hj_44 S _ _ _ x2  h I (lv_sub hl [2] rfl)
        · refine lv_aload_n F.1 F.2.1 dX7_deal_31 rfl (lv_at hl 0 rfl) ?_
          refine r_getN F I hr_x0 hk_x0 fX7_10 (f := 0) rfl (by decide) dX7_deal_32 h (fun b3 hr_b3 hk_b3 h => ?_)
          refine g_V I (run_V (As := []) (rest := []) F I hr_b3 hk_b3 (by decide) kX7_132 (ctX0_drawFounder hr_b3 hk_b3 h) ⟨rfl, rfl⟩ ⟨Nat.le_of_ble_eq_true rfl, Nat.le_of_ble_eq_true rfl⟩ rfl hl.1 rfl (Nat.le_of_ble_eq_true rfl) ⟨Nat.le_of_ble_eq_true rfl, Nat.le_of_ble_eq_true rfl⟩ dX7_deal_35) (fun S H locs I h => ?_)
          obtain ⟨z4, e_z4, h⟩ := lt_x h
          refine lv_iinc (v := z4) (lv' := [(2, .int z4), (0, .ref (gz g + x0)), (1, .int x1)]) F.1 F.2.1 dX7_deal_38 hl (k := 2) rfl (by rw [e_z4]; rfl) (by decide) rfl (fun ls hl => ?_)
          refine lv_goto (tgt := 16) F.1 F.2.1 dX7_deal_41 (by decide) ?_
          exact hk16 S _ _ _ x0 x1 z4 hr_x0 hk_x0 h I (lv_sub hl [1, 2, 0] rfl)
  have hj_11 : ∀ (S : HC) (H : Heap) (locs : List Loc) (ls : Array Slot), BX7_deal_11 ln post S  → Inv g N ln S s H locs → lv_has ls 3 [] → W p l e rmX7_deal s m ([.ref (gz g + a0), .int a1] : List Value).toArray below meth c H locs 0 0 (MQ below (QI g N ln post) ([.ref (gz g + a0), .int a1] : List Value).toArray s 0 0 (gF g)) (F0 m 11 ls []) := by
    intro S H locs ls h I hl
    unfold BX7_deal_11 at h
    refine lv_ldc F.1 F.2.1 F.2.2.2.1 (F.2.2.2.2 _ tw_334) dX7_deal_11 ?_
    exact r_ireturn F I ⟨hr.1, hr.2.1, trivial⟩ h dX7_deal_13
  refine lv_iload_n F.1 F.2.1 dX7_deal_0 rfl (lv_at hl 1 rfl) ?_
  refine lv_iconst (v := 1) F.1 F.2.1 dX7_deal_1 (by decide) ?_
  refine r_icmp_lt (tgt := 11) F dX7_deal_2 (by decide) h (fun h => ?_) (fun h => ?_)
  · exact hj_11 S _ _ _   h I (lv_sub hl [] rfl)
  · refine lv_iload_n F.1 F.2.1 dX7_deal_5 rfl (lv_at hl 1 rfl) ?_
    refine lv_bipush (v := 14) F.1 F.2.1 dX7_deal_6 (by decide) ?_
    refine r_icmp_le (tgt := 14) F dX7_deal_8 (by decide) h (fun h => ?_) (fun h => ?_)
    · refine lv_iconst (v := 0) F.1 F.2.1 dX7_deal_14 (by decide) ?_
      refine lv_istore_n (lv' := [(2, .int (0 : Int32)), (0, .ref (gz g + a0)), (1, .int a1)]) F.1 F.2.1 dX7_deal_15 rfl hl (by decide) rfl (fun ls hl => ?_)
      obtain ⟨n16, h⟩ := h
      exact hl_16 n16 S _ _ _ a0 a1 (0 : Int32) hr_a0 hk_a0 h I (lv_sub hl [1, 2, 0] rfl)
    · exact hj_11 S _ _ _   h I (lv_sub hl [] rfl)
theorem bdX7_seed_0 : ∀ q ∈ ([(0, .aload_n 0, 1), (1, .getfield 10, 3), (4, .getfield 135, 3), (7, .istore_n 2, 1), (8, .aload_n 0, 1), (9, .getfield 10, 3), (12, .iload_n 1, 1), (13, .putfield 135, 3), (16, .iload_n 2, 1), (17, .ireturn, 1)] : List (Nat × Jvm.ClassFile.Instr × Nat)), decode cX7_seed q.1 = .ok q.2 := chk_ok _ 0 _ rfl (by decide +kernel)
theorem dX7_seed_0 : decode cX7_seed 0 = .ok (.aload_n 0, 1) := bdX7_seed_0 (0, .aload_n 0, 1) (List.mem_of_getElem? (i := 0) rfl)
theorem dX7_seed_1 : decode cX7_seed 1 = .ok (.getfield 10, 3) := bdX7_seed_0 (1, .getfield 10, 3) (List.mem_of_getElem? (i := 1) rfl)
theorem dX7_seed_4 : decode cX7_seed 4 = .ok (.getfield 135, 3) := bdX7_seed_0 (4, .getfield 135, 3) (List.mem_of_getElem? (i := 2) rfl)
theorem dX7_seed_7 : decode cX7_seed 7 = .ok (.istore_n 2, 1) := bdX7_seed_0 (7, .istore_n 2, 1) (List.mem_of_getElem? (i := 3) rfl)
theorem dX7_seed_8 : decode cX7_seed 8 = .ok (.aload_n 0, 1) := bdX7_seed_0 (8, .aload_n 0, 1) (List.mem_of_getElem? (i := 4) rfl)
theorem dX7_seed_9 : decode cX7_seed 9 = .ok (.getfield 10, 3) := bdX7_seed_0 (9, .getfield 10, 3) (List.mem_of_getElem? (i := 5) rfl)
theorem dX7_seed_12 : decode cX7_seed 12 = .ok (.iload_n 1, 1) := bdX7_seed_0 (12, .iload_n 1, 1) (List.mem_of_getElem? (i := 6) rfl)
theorem dX7_seed_13 : decode cX7_seed 13 = .ok (.putfield 135, 3) := bdX7_seed_0 (13, .putfield 135, 3) (List.mem_of_getElem? (i := 7) rfl)
theorem dX7_seed_16 : decode cX7_seed 16 = .ok (.iload_n 2, 1) := bdX7_seed_0 (16, .iload_n 2, 1) (List.mem_of_getElem? (i := 8) rfl)
theorem dX7_seed_17 : decode cX7_seed 17 = .ok (.ireturn, 1) := bdX7_seed_0 (17, .ireturn, 1) (List.mem_of_getElem? (i := 9) rfl)
theorem fX7_135 : fldOK RX7 135 0 9 .int false := ⟨_, _, _, tyX0, ⟨rfl, iX0, by decide, rfl, by decide⟩, tw_118, ⟨tyX0_ok, nmX0⟩, by decide +kernel, rfl, rfl⟩
def wpX7_seed (ln : Nat → Nat) (S : HC) (a0 : Nat) (a1 : Int32) (post : Int32 → HC → Prop) : Prop := dn_ (hR S a0 0) fun b1 => lt_ (hI S b1 9) fun z2 => dn_ (hR S a0 0) fun b3 => lt_ (sI S b3 9 a1) fun S => post z2 S
abbrev rmX7_seed : Room := { frames := 0, cells := 0, slots := 0, locals := 0 }
set_option maxHeartbeats 4000000 in
set_option maxRecDepth 100000 in
theorem ctX7_seed {l : Launch} {g : GX} {N : Nat} {ln : Nat → Nat} {S : HC} {a0 : Nat} {a1 : Int32} {post : Int32 → HC → Prop} (hr_a0 : a0 < N) (hk_a0 : kd a0 = 7) (h : wpX7_seed ln S a0 a1 post) : Met l yX7_seed (Cond.code yX7_seed prog_1_method_10_code 3 (Option.some Jvm.ClassFile.FieldType.int) :: gtbl) rmX7_seed (va_Pc [.ref (gz g + a0), .int a1] (AtP g N ln S)) (QI g N ln post) 0 0 (gF g) := by
  refine m_of (by decide) (Nat.le_of_ble_eq_true rfl) ?_
  intro p e s m below meth c ls F hr I hl
  have hl : lv_has ls 3 [(0, .ref (gz g + a0)), (1, .int a1)] := hl
  unfold wpX7_seed at h
  refine lv_aload_n F.1 F.2.1 dX7_seed_0 rfl (lv_at hl 0 rfl) ?_
  refine r_getN F I hr_a0 hk_a0 fX7_10 (f := 0) rfl (by decide) dX7_seed_1 h (fun b1 hr_b1 hk_b1 h => ?_)
  refine r_getI F I hr_b1 hk_b1 fX7_135 rfl dX7_seed_4 h (fun z2 h => ?_)
  refine lv_istore_n (lv' := [(2, .int z2), (0, .ref (gz g + a0)), (1, .int a1)]) F.1 F.2.1 dX7_seed_7 rfl hl (by decide) rfl (fun ls hl => ?_)
  refine lv_aload_n F.1 F.2.1 dX7_seed_8 rfl (lv_at hl 1 rfl) ?_
  refine r_getN F I hr_a0 hk_a0 fX7_10 (f := 0) rfl (by decide) dX7_seed_9 h (fun b3 hr_b3 hk_b3 h => ?_)
  refine lv_iload_n F.1 F.2.1 dX7_seed_12 rfl (lv_at hl 2 rfl) ?_
  refine r_putI F I hr_b3 hk_b3 fX7_135 rfl (Or.inl rfl) ⟨rfl, rfl⟩ dX7_seed_13 h (fun S H locs I h => ?_)
  refine lv_iload_n F.1 F.2.1 dX7_seed_16 rfl (lv_at hl 0 rfl) ?_
  exact r_ireturn F I ⟨hr.1, hr.2.1, trivial⟩ h dX7_seed_17
theorem bdX7_years_0 : ∀ q ∈ ([(0, .iload_n 1, 1), (1, .iconst 1, 1), (2, .if_icmp .lt 9, 3), (5, .iload_n 1, 1), (6, .bipush 100, 2), (8, .if_icmp .le 6, 3), (11, .ldc 73, 2), (13, .ireturn, 1), (14, .iload_n 1, 1), (15, .sipush 9999, 3), (18, .aload_n 0, 1), (19, .getfield 10, 3), (22, .getfield 138, 3), (25, .isub, 1), (26, .invokestatic 141, 3), (29, .istore_n 2, 1), (30, .iconst 0, 1), (31, .istore_n 3, 1), (32, .iconst 0, 1), (33, .istore 4, 2), (35, .iload 4, 2), (37, .iload_n 2, 1), (38, .if_icmp .ge 22, 3), (41, .aload_n 0, 1), (42, .getfield 10, 3), (45, .invokevirtual 146, 3), (48, .ifCond .eq 6, 3), (51, .iinc 3 1, 3), (54, .iinc 4 1, 3), (57, .goto (-22), 3), (60, .iload_n 3, 1), (61, .ireturn, 1)] : List (Nat × Jvm.ClassFile.Instr × Nat)), decode cX7_years q.1 = .ok q.2 := chk_ok _ 0 _ rfl (by decide +kernel)
theorem dX7_years_0 : decode cX7_years 0 = .ok (.iload_n 1, 1) := bdX7_years_0 (0, .iload_n 1, 1) (List.mem_of_getElem? (i := 0) rfl)
theorem dX7_years_1 : decode cX7_years 1 = .ok (.iconst 1, 1) := bdX7_years_0 (1, .iconst 1, 1) (List.mem_of_getElem? (i := 1) rfl)
theorem dX7_years_2 : decode cX7_years 2 = .ok (.if_icmp .lt 9, 3) := bdX7_years_0 (2, .if_icmp .lt 9, 3) (List.mem_of_getElem? (i := 2) rfl)
theorem dX7_years_5 : decode cX7_years 5 = .ok (.iload_n 1, 1) := bdX7_years_0 (5, .iload_n 1, 1) (List.mem_of_getElem? (i := 3) rfl)
theorem dX7_years_6 : decode cX7_years 6 = .ok (.bipush 100, 2) := bdX7_years_0 (6, .bipush 100, 2) (List.mem_of_getElem? (i := 4) rfl)
theorem dX7_years_8 : decode cX7_years 8 = .ok (.if_icmp .le 6, 3) := bdX7_years_0 (8, .if_icmp .le 6, 3) (List.mem_of_getElem? (i := 5) rfl)
theorem dX7_years_11 : decode cX7_years 11 = .ok (.ldc 73, 2) := bdX7_years_0 (11, .ldc 73, 2) (List.mem_of_getElem? (i := 6) rfl)
theorem dX7_years_13 : decode cX7_years 13 = .ok (.ireturn, 1) := bdX7_years_0 (13, .ireturn, 1) (List.mem_of_getElem? (i := 7) rfl)
theorem dX7_years_14 : decode cX7_years 14 = .ok (.iload_n 1, 1) := bdX7_years_0 (14, .iload_n 1, 1) (List.mem_of_getElem? (i := 8) rfl)
theorem dX7_years_15 : decode cX7_years 15 = .ok (.sipush 9999, 3) := bdX7_years_0 (15, .sipush 9999, 3) (List.mem_of_getElem? (i := 9) rfl)
theorem dX7_years_18 : decode cX7_years 18 = .ok (.aload_n 0, 1) := bdX7_years_0 (18, .aload_n 0, 1) (List.mem_of_getElem? (i := 10) rfl)
theorem dX7_years_19 : decode cX7_years 19 = .ok (.getfield 10, 3) := bdX7_years_0 (19, .getfield 10, 3) (List.mem_of_getElem? (i := 11) rfl)
theorem dX7_years_22 : decode cX7_years 22 = .ok (.getfield 138, 3) := bdX7_years_0 (22, .getfield 138, 3) (List.mem_of_getElem? (i := 12) rfl)
theorem dX7_years_25 : decode cX7_years 25 = .ok (.isub, 1) := bdX7_years_0 (25, .isub, 1) (List.mem_of_getElem? (i := 13) rfl)
theorem dX7_years_26 : decode cX7_years 26 = .ok (.invokestatic 141, 3) := bdX7_years_0 (26, .invokestatic 141, 3) (List.mem_of_getElem? (i := 14) rfl)
theorem dX7_years_29 : decode cX7_years 29 = .ok (.istore_n 2, 1) := bdX7_years_0 (29, .istore_n 2, 1) (List.mem_of_getElem? (i := 15) rfl)
theorem dX7_years_30 : decode cX7_years 30 = .ok (.iconst 0, 1) := bdX7_years_0 (30, .iconst 0, 1) (List.mem_of_getElem? (i := 16) rfl)
theorem dX7_years_31 : decode cX7_years 31 = .ok (.istore_n 3, 1) := bdX7_years_0 (31, .istore_n 3, 1) (List.mem_of_getElem? (i := 17) rfl)
theorem dX7_years_32 : decode cX7_years 32 = .ok (.iconst 0, 1) := bdX7_years_0 (32, .iconst 0, 1) (List.mem_of_getElem? (i := 18) rfl)
theorem dX7_years_33 : decode cX7_years 33 = .ok (.istore 4, 2) := bdX7_years_0 (33, .istore 4, 2) (List.mem_of_getElem? (i := 19) rfl)
theorem dX7_years_35 : decode cX7_years 35 = .ok (.iload 4, 2) := bdX7_years_0 (35, .iload 4, 2) (List.mem_of_getElem? (i := 20) rfl)
theorem dX7_years_37 : decode cX7_years 37 = .ok (.iload_n 2, 1) := bdX7_years_0 (37, .iload_n 2, 1) (List.mem_of_getElem? (i := 21) rfl)
theorem dX7_years_38 : decode cX7_years 38 = .ok (.if_icmp .ge 22, 3) := bdX7_years_0 (38, .if_icmp .ge 22, 3) (List.mem_of_getElem? (i := 22) rfl)
theorem dX7_years_41 : decode cX7_years 41 = .ok (.aload_n 0, 1) := bdX7_years_0 (41, .aload_n 0, 1) (List.mem_of_getElem? (i := 23) rfl)
theorem dX7_years_42 : decode cX7_years 42 = .ok (.getfield 10, 3) := bdX7_years_0 (42, .getfield 10, 3) (List.mem_of_getElem? (i := 24) rfl)
theorem dX7_years_45 : decode cX7_years 45 = .ok (.invokevirtual 146, 3) := bdX7_years_0 (45, .invokevirtual 146, 3) (List.mem_of_getElem? (i := 25) rfl)
theorem dX7_years_48 : decode cX7_years 48 = .ok (.ifCond .eq 6, 3) := bdX7_years_0 (48, .ifCond .eq 6, 3) (List.mem_of_getElem? (i := 26) rfl)
theorem dX7_years_51 : decode cX7_years 51 = .ok (.iinc 3 1, 3) := bdX7_years_0 (51, .iinc 3 1, 3) (List.mem_of_getElem? (i := 27) rfl)
theorem dX7_years_54 : decode cX7_years 54 = .ok (.iinc 4 1, 3) := bdX7_years_0 (54, .iinc 4 1, 3) (List.mem_of_getElem? (i := 28) rfl)
theorem dX7_years_57 : decode cX7_years 57 = .ok (.goto (-22), 3) := bdX7_years_0 (57, .goto (-22), 3) (List.mem_of_getElem? (i := 29) rfl)
theorem dX7_years_60 : decode cX7_years 60 = .ok (.iload_n 3, 1) := bdX7_years_0 (60, .iload_n 3, 1) (List.mem_of_getElem? (i := 30) rfl)
theorem dX7_years_61 : decode cX7_years 61 = .ok (.ireturn, 1) := bdX7_years_0 (61, .ireturn, 1) (List.mem_of_getElem? (i := 31) rfl)
theorem fX7_138 : fldOK RX7 138 0 8 .int false := ⟨_, _, _, tyX0, ⟨rfl, iX0, by decide, rfl, by decide⟩, tw_116, ⟨tyX0_ok, nmX0⟩, by decide +kernel, rfl, rfl⟩
def BX7_years_54 (ln : Nat → Nat) (post : Int32 → HC → Prop) (K35 : HC → Nat → Int32 → Int32 → Int32 → Prop) (S : HC) (x0 : Nat) (x2 : Int32) (x3 : Int32) (x4 : Int32) : Prop := lt_ (x4 + (1 : Int32)) fun z1 => K35 S x0 x2 x3 z1
def LX7_years_35 (ln : Nat → Nat) (post : Int32 → HC → Prop) : Nat → HC → Nat → Int32 → Int32 → Int32 → Prop
  | 0 => fun _ _ _ _ _ => False
  | n35 + 1 => fun S x0 x2 x3 x4 => if x2 ≤ x4 then (post x3 S) else (dn_ (hR S x0 0) fun b2 => wpX0_passYear ln S b2 fun z3 S => if z3 = 0 then (BX7_years_54 ln post (LX7_years_35 ln post n35) S x0 x2 x3 x4) else (lt_ (x3 + (1 : Int32)) fun z4 => BX7_years_54 ln post (LX7_years_35 ln post n35) S x0 x2 z4 x4))
def BX7_years_11 (ln : Nat → Nat) (post : Int32 → HC → Prop) (S : HC)  : Prop := post (-1000000001 : Int32) S
def wpX7_years (ln : Nat → Nat) (S : HC) (a0 : Nat) (a1 : Int32) (post : Int32 → HC → Prop) : Prop := if a1 < (1 : Int32) then (BX7_years_11 ln post S) else (if a1 ≤ (100 : Int32) then (dn_ (hR S a0 0) fun b5 => lt_ (hI S b5 8) fun z6 => lt_ ((9999 : Int32) - z6) fun z7 => lt_ (if z7 < a1 then z7 else a1) fun z8 => ∃ n35, LX7_years_35 ln post n35 S a0 z8 (0 : Int32) (0 : Int32)) else (BX7_years_11 ln post S))
abbrev rmX7_years : Room := { frames := 4, cells := 0, slots := 0, locals := 93 }
set_option maxHeartbeats 4000000 in
set_option maxRecDepth 100000 in
theorem ctX7_years {l : Launch} {g : GX} {N : Nat} {ln : Nat → Nat} {S : HC} {a0 : Nat} {a1 : Int32} {post : Int32 → HC → Prop} (hr_a0 : a0 < N) (hk_a0 : kd a0 = 7) (h : wpX7_years ln S a0 a1 post) : Met l yX7_years (Cond.code yX7_years prog_1_method_11_code 5 (Option.some Jvm.ClassFile.FieldType.int) :: gtbl) rmX7_years (va_Pc [.ref (gz g + a0), .int a1] (AtP g N ln S)) (QI g N ln post) 0 0 (gF g) := by
  refine m_of (by decide) (Nat.le_of_ble_eq_true rfl) ?_
  intro p e s m below meth c ls F hr I hl
  have hl : lv_has ls 5 [(0, .ref (gz g + a0)), (1, .int a1)] := hl
  unfold wpX7_years at h
  have hl_35 : ∀ n35 : Nat, ∀ (S : HC) (H : Heap) (locs : List Loc) (ls : Array Slot) (x0 : Nat) (x2 : Int32) (x3 : Int32) (x4 : Int32), x0 < N → kd x0 = 7 → LX7_years_35 ln post n35 S x0 x2 x3 x4 → Inv g N ln S s H locs → lv_has ls 5 [(0, .ref (gz g + x0)), (2, .int x2), (3, .int x3), (4, .int x4)] → W p l e rmX7_years s m ([.ref (gz g + a0), .int a1] : List Value).toArray below meth c H locs 0 0 (MQ below (QI g N ln post) ([.ref (gz g + a0), .int a1] : List Value).toArray s 0 0 (gF g)) (F0 m 35 ls []) := by
    intro n35
    induction n35 with
    | zero =>
      intro S H locs ls x0 x2 x3 x4 hr_x0 hk_x0 h I hl
      exact h.elim
    | succ n35 ih =>
      have hk35 := ih
      have hj_54 : ∀ (S : HC) (H : Heap) (locs : List Loc) (ls : Array Slot) (x0 : Nat) (x2 : Int32) (x3 : Int32) (x4 : Int32), x0 < N → kd x0 = 7 → BX7_years_54 ln post (LX7_years_35 ln post n35) S x0 x2 x3 x4 → Inv g N ln S s H locs → lv_has ls 5 [(0, .ref (gz g + x0)), (2, .int x2), (3, .int x3), (4, .int x4)] → W p l e rmX7_years s m ([.ref (gz g + a0), .int a1] : List Value).toArray below meth c H locs 0 0 (MQ below (QI g N ln post) ([.ref (gz g + a0), .int a1] : List Value).toArray s 0 0 (gF g)) (F0 m 54 ls []) := by
        intro S H locs ls x0 x2 x3 x4 hr_x0 hk_x0 h I hl
        unfold BX7_years_54 at h
        obtain ⟨z1, e_z1, h⟩ := lt_x h
        refine lv_iinc (v := z1) (lv' := [(4, .int z1), (0, .ref (gz g + x0)), (2, .int x2), (3, .int x3)]) F.1 F.2.1 dX7_years_54 hl (k := 3) rfl (by rw [e_z1]; rfl) (by decide) rfl (fun ls hl => ?_)
        refine lv_goto (tgt := 35) F.1 F.2.1 dX7_years_57 (by decide) ?_
        exact hk35 S _ _ _ x0 x2 x3 z1 hr_x0 hk_x0 h I (lv_sub hl [1, 2, 3, 0] rfl)
      intro S H locs ls x0 x2 x3 x4 hr_x0 hk_x0 h I hl
      rw [LX7_years_35] at h
      refine lv_iload F.1 F.2.1 dX7_years_35 (lv_at hl 3 rfl) ?_
      refine lv_iload_n F.1 F.2.1 dX7_years_37 rfl (lv_at hl 1 rfl) ?_
      refine r_icmp_ge (tgt := 60) F dX7_years_38 (by decide) h (fun h => ?_) (fun h => ?_)
      · refine lv_iload_n F.1 F.2.1 dX7_years_60 rfl (lv_at hl 2 rfl) ?_
        exact r_ireturn F I ⟨hr.1, hr.2.1, trivial⟩ h dX7_years_61
      · refine lv_aload_n F.1 F.2.1 dX7_years_41 rfl (lv_at hl 0 rfl) ?_
        refine r_getN F I hr_x0 hk_x0 fX7_10 (f := 0) rfl (by decide) dX7_years_42 h (fun b2 hr_b2 hk_b2 h => ?_)
        refine g_I I (run_V (As := []) (rest := []) F I hr_b2 hk_b2 (by decide) kX7_146 (ctX0_passYear hr_b2 hk_b2 h) ⟨rfl, rfl⟩ ⟨Nat.le_of_ble_eq_true rfl, Nat.le_of_ble_eq_true rfl⟩ rfl hl.1 rfl (Nat.le_of_ble_eq_true rfl) ⟨Nat.le_of_ble_eq_true rfl, Nat.le_of_ble_eq_true rfl⟩ dX7_years_45) (fun z3 S H locs I h => ?_)
        refine r_if_eq (tgt := 54) F dX7_years_48 (by decide) h (fun h => ?_) (fun h => ?_)
        · exact hj_54 S _ _ _ x0 x2 x3 x4 hr_x0 hk_x0 h I (lv_sub hl [0, 1, 2, 3] rfl)
        · obtain ⟨z4, e_z4, h⟩ := lt_x h
          refine lv_iinc (v := z4) (lv' := [(3, .int z4), (0, .ref (gz g + x0)), (2, .int x2), (4, .int x4)]) F.1 F.2.1 dX7_years_51 hl (k := 2) rfl (by rw [e_z4]; rfl) (by decide) rfl (fun ls hl => ?_)
          exact hj_54 S _ _ _ x0 x2 z4 x4 hr_x0 hk_x0 h I (lv_sub hl [1, 2, 0, 3] rfl)
  have hj_11 : ∀ (S : HC) (H : Heap) (locs : List Loc) (ls : Array Slot), BX7_years_11 ln post S  → Inv g N ln S s H locs → lv_has ls 5 [] → W p l e rmX7_years s m ([.ref (gz g + a0), .int a1] : List Value).toArray below meth c H locs 0 0 (MQ below (QI g N ln post) ([.ref (gz g + a0), .int a1] : List Value).toArray s 0 0 (gF g)) (F0 m 11 ls []) := by
    intro S H locs ls h I hl
    unfold BX7_years_11 at h
    refine lv_ldc F.1 F.2.1 F.2.2.2.1 (F.2.2.2.2 _ tw_334) dX7_years_11 ?_
    exact r_ireturn F I ⟨hr.1, hr.2.1, trivial⟩ h dX7_years_13
  refine lv_iload_n F.1 F.2.1 dX7_years_0 rfl (lv_at hl 1 rfl) ?_
  refine lv_iconst (v := 1) F.1 F.2.1 dX7_years_1 (by decide) ?_
  refine r_icmp_lt (tgt := 11) F dX7_years_2 (by decide) h (fun h => ?_) (fun h => ?_)
  · exact hj_11 S _ _ _   h I (lv_sub hl [] rfl)
  · refine lv_iload_n F.1 F.2.1 dX7_years_5 rfl (lv_at hl 1 rfl) ?_
    refine lv_bipush (v := 100) F.1 F.2.1 dX7_years_6 (by decide) ?_
    refine r_icmp_le (tgt := 14) F dX7_years_8 (by decide) h (fun h => ?_) (fun h => ?_)
    · refine lv_iload_n F.1 F.2.1 dX7_years_14 rfl (lv_at hl 1 rfl) ?_
      refine lv_sipush (v := 9999) F.1 F.2.1 dX7_years_15 (by decide) ?_
      refine lv_aload_n F.1 F.2.1 dX7_years_18 rfl (lv_at hl 0 rfl) ?_
      refine r_getN F I hr_a0 hk_a0 fX7_10 (f := 0) rfl (by decide) dX7_years_19 h (fun b5 hr_b5 hk_b5 h => ?_)
      refine r_getI F I hr_b5 hk_b5 fX7_138 rfl dX7_years_22 h (fun z6 h => ?_)
      refine r_isub F dX7_years_25 h (fun z7 h => ?_)
      refine r_mmin F hl.1 tw_416 (Nat.le_of_ble_eq_true rfl) (Nat.le_of_ble_eq_true rfl) (Nat.zero_le _) (Nat.zero_le _) dX7_years_26 h (fun z8 h => ?_)
      refine lv_istore_n (lv' := [(2, .int z8), (0, .ref (gz g + a0)), (1, .int a1)]) F.1 F.2.1 dX7_years_29 rfl hl (by decide) rfl (fun ls hl => ?_)
      refine lv_iconst (v := 0) F.1 F.2.1 dX7_years_30 (by decide) ?_
      refine lv_istore_n (lv' := [(3, .int (0 : Int32)), (2, .int z8), (0, .ref (gz g + a0)), (1, .int a1)]) F.1 F.2.1 dX7_years_31 rfl hl (by decide) rfl (fun ls hl => ?_)
      refine lv_iconst (v := 0) F.1 F.2.1 dX7_years_32 (by decide) ?_
      refine lv_istore (lv' := [(4, .int (0 : Int32)), (3, .int (0 : Int32)), (2, .int z8), (0, .ref (gz g + a0)), (1, .int a1)]) F.1 F.2.1 dX7_years_33 hl (by decide) rfl (fun ls hl => ?_)
      obtain ⟨n35, h⟩ := h
      exact hl_35 n35 S _ _ _ a0 z8 (0 : Int32) (0 : Int32) hr_a0 hk_a0 h I (lv_sub hl [3, 2, 1, 0] rfl)
    · exact hj_11 S _ _ _   h I (lv_sub hl [] rfl)
theorem bdX7_alike_0 : ∀ q ∈ ([(0, .aload_n 0, 1), (1, .getfield 10, 3), (4, .iload_n 1, 1), (5, .invokevirtual 86, 3), (8, .ifCond .eq 19, 3), (11, .aload_n 0, 1), (12, .getfield 10, 3), (15, .iload_n 2, 1), (16, .invokevirtual 86, 3), (19, .ifCond .eq 8, 3), (22, .iload_n 1, 1), (23, .iload_n 2, 1), (24, .if_icmp .ne 6, 3), (27, .ldc 73, 2), (29, .ireturn, 1), (30, .aload_n 0, 1), (31, .getfield 29, 3), (34, .aload_n 0, 1), (35, .getfield 10, 3), (38, .invokevirtual 149, 3), (41, .aload_n 0, 1), (42, .getfield 29, 3), (45, .iload_n 1, 1), (46, .invokevirtual 152, 3), (49, .aload_n 0, 1), (50, .getfield 29, 3), (53, .iload_n 2, 1), (54, .invokevirtual 152, 3), (58, .ifCond .ne 7, 3), (61, .iconst 1, 1), (62, .goto 4, 3), (65, .iconst 0, 1), (66, .ireturn, 1)] : List (Nat × Jvm.ClassFile.Instr × Nat)), decode cX7_alike q.1 = .ok q.2 := chk_ok _ 0 _ rfl (by decide +kernel)
theorem dX7_alike_0 : decode cX7_alike 0 = .ok (.aload_n 0, 1) := bdX7_alike_0 (0, .aload_n 0, 1) (List.mem_of_getElem? (i := 0) rfl)
theorem dX7_alike_1 : decode cX7_alike 1 = .ok (.getfield 10, 3) := bdX7_alike_0 (1, .getfield 10, 3) (List.mem_of_getElem? (i := 1) rfl)
theorem dX7_alike_4 : decode cX7_alike 4 = .ok (.iload_n 1, 1) := bdX7_alike_0 (4, .iload_n 1, 1) (List.mem_of_getElem? (i := 2) rfl)
theorem dX7_alike_5 : decode cX7_alike 5 = .ok (.invokevirtual 86, 3) := bdX7_alike_0 (5, .invokevirtual 86, 3) (List.mem_of_getElem? (i := 3) rfl)
theorem dX7_alike_8 : decode cX7_alike 8 = .ok (.ifCond .eq 19, 3) := bdX7_alike_0 (8, .ifCond .eq 19, 3) (List.mem_of_getElem? (i := 4) rfl)
theorem dX7_alike_11 : decode cX7_alike 11 = .ok (.aload_n 0, 1) := bdX7_alike_0 (11, .aload_n 0, 1) (List.mem_of_getElem? (i := 5) rfl)
theorem dX7_alike_12 : decode cX7_alike 12 = .ok (.getfield 10, 3) := bdX7_alike_0 (12, .getfield 10, 3) (List.mem_of_getElem? (i := 6) rfl)
theorem dX7_alike_15 : decode cX7_alike 15 = .ok (.iload_n 2, 1) := bdX7_alike_0 (15, .iload_n 2, 1) (List.mem_of_getElem? (i := 7) rfl)
theorem dX7_alike_16 : decode cX7_alike 16 = .ok (.invokevirtual 86, 3) := bdX7_alike_0 (16, .invokevirtual 86, 3) (List.mem_of_getElem? (i := 8) rfl)
theorem dX7_alike_19 : decode cX7_alike 19 = .ok (.ifCond .eq 8, 3) := bdX7_alike_0 (19, .ifCond .eq 8, 3) (List.mem_of_getElem? (i := 9) rfl)
theorem dX7_alike_22 : decode cX7_alike 22 = .ok (.iload_n 1, 1) := bdX7_alike_0 (22, .iload_n 1, 1) (List.mem_of_getElem? (i := 10) rfl)
theorem dX7_alike_23 : decode cX7_alike 23 = .ok (.iload_n 2, 1) := bdX7_alike_0 (23, .iload_n 2, 1) (List.mem_of_getElem? (i := 11) rfl)
theorem dX7_alike_24 : decode cX7_alike 24 = .ok (.if_icmp .ne 6, 3) := bdX7_alike_0 (24, .if_icmp .ne 6, 3) (List.mem_of_getElem? (i := 12) rfl)
theorem dX7_alike_27 : decode cX7_alike 27 = .ok (.ldc 73, 2) := bdX7_alike_0 (27, .ldc 73, 2) (List.mem_of_getElem? (i := 13) rfl)
theorem dX7_alike_29 : decode cX7_alike 29 = .ok (.ireturn, 1) := bdX7_alike_0 (29, .ireturn, 1) (List.mem_of_getElem? (i := 14) rfl)
theorem dX7_alike_30 : decode cX7_alike 30 = .ok (.aload_n 0, 1) := bdX7_alike_0 (30, .aload_n 0, 1) (List.mem_of_getElem? (i := 15) rfl)
theorem dX7_alike_31 : decode cX7_alike 31 = .ok (.getfield 29, 3) := bdX7_alike_0 (31, .getfield 29, 3) (List.mem_of_getElem? (i := 16) rfl)
theorem dX7_alike_34 : decode cX7_alike 34 = .ok (.aload_n 0, 1) := bdX7_alike_0 (34, .aload_n 0, 1) (List.mem_of_getElem? (i := 17) rfl)
theorem dX7_alike_35 : decode cX7_alike 35 = .ok (.getfield 10, 3) := bdX7_alike_0 (35, .getfield 10, 3) (List.mem_of_getElem? (i := 18) rfl)
theorem dX7_alike_38 : decode cX7_alike 38 = .ok (.invokevirtual 149, 3) := bdX7_alike_0 (38, .invokevirtual 149, 3) (List.mem_of_getElem? (i := 19) rfl)
theorem dX7_alike_41 : decode cX7_alike 41 = .ok (.aload_n 0, 1) := bdX7_alike_0 (41, .aload_n 0, 1) (List.mem_of_getElem? (i := 20) rfl)
theorem dX7_alike_42 : decode cX7_alike 42 = .ok (.getfield 29, 3) := bdX7_alike_0 (42, .getfield 29, 3) (List.mem_of_getElem? (i := 21) rfl)
theorem dX7_alike_45 : decode cX7_alike 45 = .ok (.iload_n 1, 1) := bdX7_alike_0 (45, .iload_n 1, 1) (List.mem_of_getElem? (i := 22) rfl)
theorem dX7_alike_46 : decode cX7_alike 46 = .ok (.invokevirtual 152, 3) := bdX7_alike_0 (46, .invokevirtual 152, 3) (List.mem_of_getElem? (i := 23) rfl)
theorem dX7_alike_49 : decode cX7_alike 49 = .ok (.aload_n 0, 1) := bdX7_alike_0 (49, .aload_n 0, 1) (List.mem_of_getElem? (i := 24) rfl)
theorem dX7_alike_50 : decode cX7_alike 50 = .ok (.getfield 29, 3) := bdX7_alike_0 (50, .getfield 29, 3) (List.mem_of_getElem? (i := 25) rfl)
theorem dX7_alike_53 : decode cX7_alike 53 = .ok (.iload_n 2, 1) := bdX7_alike_0 (53, .iload_n 2, 1) (List.mem_of_getElem? (i := 26) rfl)
theorem dX7_alike_54 : decode cX7_alike 54 = .ok (.invokevirtual 152, 3) := bdX7_alike_0 (54, .invokevirtual 152, 3) (List.mem_of_getElem? (i := 27) rfl)
theorem dX7_alike_58 : decode cX7_alike 58 = .ok (.ifCond .ne 7, 3) := bdX7_alike_0 (58, .ifCond .ne 7, 3) (List.mem_of_getElem? (i := 28) rfl)
theorem dX7_alike_61 : decode cX7_alike 61 = .ok (.iconst 1, 1) := bdX7_alike_0 (61, .iconst 1, 1) (List.mem_of_getElem? (i := 29) rfl)
theorem dX7_alike_62 : decode cX7_alike 62 = .ok (.goto 4, 3) := bdX7_alike_0 (62, .goto 4, 3) (List.mem_of_getElem? (i := 30) rfl)
theorem dX7_alike_65 : decode cX7_alike 65 = .ok (.iconst 0, 1) := bdX7_alike_0 (65, .iconst 0, 1) (List.mem_of_getElem? (i := 31) rfl)
theorem dX7_alike_66 : decode cX7_alike 66 = .ok (.ireturn, 1) := bdX7_alike_0 (66, .ireturn, 1) (List.mem_of_getElem? (i := 32) rfl)
theorem dX7_alike_57 : decode cX7_alike 57 = .ok (.lcmp, 1) := by decide +kernel
theorem kX7_149 : mthV RX7 149 4 yX4_workOutAll prog_6_method_3_code 3 (Option.none : Option Jvm.ClassFile.FieldType) 1 := ⟨⟨⟨tw_493, tw_62, tw_496⟩, rfl, by decide +kernel⟩, tw_494, tw_495, rfl⟩
theorem kX7_152 : mthV RX7 152 4 yX4_packed prog_6_method_10_code 5 (Option.some Jvm.ClassFile.FieldType.long) 1 := ⟨⟨⟨tw_499, tw_62, tw_502⟩, rfl, by decide +kernel⟩, tw_500, tw_501, rfl⟩
def BX7_alike_27 (ln : Nat → Nat) (post : Int32 → HC → Prop) (S : HC)  : Prop := post (-1000000001 : Int32) S
def wpX7_alike (ln : Nat → Nat) (S : HC) (a0 : Nat) (a1 : Int32) (a2 : Int32) (post : Int32 → HC → Prop) : Prop := dn_ (hR S a0 0) fun b1 => wpX0_has ln S b1 a1 fun z2 S => if z2 = 0 then (BX7_alike_27 ln post S) else (dn_ (hR S a0 0) fun b3 => wpX0_has ln S b3 a2 fun z4 S => if z4 = 0 then (BX7_alike_27 ln post S) else (if a1 = a2 then (BX7_alike_27 ln post S) else (dn_ (hR S a0 4) fun b5 => dn_ (hR S a0 0) fun b6 => wpX4_workOutAll ln S b5 b6 fun S => dn_ (hR S a0 4) fun b7 => wpX4_packed ln S b7 a1 fun z8 S => dn_ (hR S a0 4) fun b9 => wpX4_packed ln S b9 a2 fun z10 S => lt_ (lg_cmp z8 z10) fun z11 => if z11 = 0 then (post (1 : Int32) S) else (post (0 : Int32) S))))
abbrev rmX7_alike : Room := { frames := 6, cells := 0, slots := 0, locals := 143 }
set_option maxHeartbeats 4000000 in
set_option maxRecDepth 100000 in
theorem ctX7_alike {l : Launch} {g : GX} {N : Nat} {ln : Nat → Nat} {S : HC} {a0 : Nat} {a1 : Int32} {a2 : Int32} {post : Int32 → HC → Prop} (hr_a0 : a0 < N) (hk_a0 : kd a0 = 7) (h : wpX7_alike ln S a0 a1 a2 post) : Met l yX7_alike (Cond.code yX7_alike prog_1_method_12_code 3 (Option.some Jvm.ClassFile.FieldType.int) :: gtbl) rmX7_alike (va_Pc [.ref (gz g + a0), .int a1, .int a2] (AtP g N ln S)) (QI g N ln post) 0 0 (gF g) := by
  refine m_of (by decide) (Nat.le_of_ble_eq_true rfl) ?_
  intro p e s m below meth c ls F hr I hl
  have hl : lv_has ls 3 [(0, .ref (gz g + a0)), (1, .int a1), (2, .int a2)] := hl
  unfold wpX7_alike at h
  have hj_27 : ∀ (S : HC) (H : Heap) (locs : List Loc) (ls : Array Slot), BX7_alike_27 ln post S  → Inv g N ln S s H locs → lv_has ls 3 [] → W p l e rmX7_alike s m ([.ref (gz g + a0), .int a1, .int a2] : List Value).toArray below meth c H locs 0 0 (MQ below (QI g N ln post) ([.ref (gz g + a0), .int a1, .int a2] : List Value).toArray s 0 0 (gF g)) (F0 m 27 ls []) := by
    intro S H locs ls h I hl
    unfold BX7_alike_27 at h
    refine lv_ldc F.1 F.2.1 F.2.2.2.1 (F.2.2.2.2 _ tw_334) dX7_alike_27 ?_
    exact r_ireturn F I ⟨hr.1, hr.2.1, trivial⟩ h dX7_alike_29
  refine lv_aload_n F.1 F.2.1 dX7_alike_0 rfl (lv_at hl 0 rfl) ?_
  refine r_getN F I hr_a0 hk_a0 fX7_10 (f := 0) rfl (by decide) dX7_alike_1 h (fun b1 hr_b1 hk_b1 h => ?_)
  refine lv_iload_n F.1 F.2.1 dX7_alike_4 rfl (lv_at hl 1 rfl) ?_
  refine g_I I (run_V (As := [.int a1]) (rest := []) F I hr_b1 hk_b1 (by decide) kX7_86 (ctX0_has hr_b1 hk_b1 h) ⟨rfl, rfl⟩ ⟨Nat.le_of_ble_eq_true rfl, Nat.le_of_ble_eq_true rfl⟩ rfl hl.1 rfl (Nat.le_of_ble_eq_true rfl) ⟨Nat.le_of_ble_eq_true rfl, Nat.le_of_ble_eq_true rfl⟩ dX7_alike_5) (fun z2 S H locs I h => ?_)
  refine r_if_eq (tgt := 27) F dX7_alike_8 (by decide) h (fun h => ?_) (fun h => ?_)
  · exact hj_27 S _ _ _   h I (lv_sub hl [] rfl)
  · refine lv_aload_n F.1 F.2.1 dX7_alike_11 rfl (lv_at hl 0 rfl) ?_
    refine r_getN F I hr_a0 hk_a0 fX7_10 (f := 0) rfl (by decide) dX7_alike_12 h (fun b3 hr_b3 hk_b3 h => ?_)
    refine lv_iload_n F.1 F.2.1 dX7_alike_15 rfl (lv_at hl 2 rfl) ?_
    refine g_I I (run_V (As := [.int a2]) (rest := []) F I hr_b3 hk_b3 (by decide) kX7_86 (ctX0_has hr_b3 hk_b3 h) ⟨rfl, rfl⟩ ⟨Nat.le_of_ble_eq_true rfl, Nat.le_of_ble_eq_true rfl⟩ rfl hl.1 rfl (Nat.le_of_ble_eq_true rfl) ⟨Nat.le_of_ble_eq_true rfl, Nat.le_of_ble_eq_true rfl⟩ dX7_alike_16) (fun z4 S H locs I h => ?_)
    refine r_if_eq (tgt := 27) F dX7_alike_19 (by decide) h (fun h => ?_) (fun h => ?_)
    · exact hj_27 S _ _ _   h I (lv_sub hl [] rfl)
    · refine lv_iload_n F.1 F.2.1 dX7_alike_22 rfl (lv_at hl 1 rfl) ?_
      refine lv_iload_n F.1 F.2.1 dX7_alike_23 rfl (lv_at hl 2 rfl) ?_
      refine r_icmp_ne (tgt := 30) F dX7_alike_24 (by decide) h (fun h => ?_) (fun h => ?_)
      · refine lv_aload_n F.1 F.2.1 dX7_alike_30 rfl (lv_at hl 0 rfl) ?_
        refine r_getN F I hr_a0 hk_a0 fX7_29 (f := 4) rfl (by decide) dX7_alike_31 h (fun b5 hr_b5 hk_b5 h => ?_)
        refine lv_aload_n F.1 F.2.1 dX7_alike_34 rfl (lv_at hl 0 rfl) ?_
        refine r_getN F I hr_a0 hk_a0 fX7_10 (f := 0) rfl (by decide) dX7_alike_35 h (fun b6 hr_b6 hk_b6 h => ?_)
        refine g_V I (run_V (As := [.ref (gz g + b6)]) (rest := []) F I hr_b5 hk_b5 (by decide) kX7_149 (ctX4_workOutAll hr_b5 hk_b5 hr_b6 hk_b6 h) ⟨rfl, rfl⟩ ⟨Nat.le_of_ble_eq_true rfl, Nat.le_of_ble_eq_true rfl⟩ rfl hl.1 rfl (Nat.le_of_ble_eq_true rfl) ⟨Nat.le_of_ble_eq_true rfl, Nat.le_of_ble_eq_true rfl⟩ dX7_alike_38) (fun S H locs I h => ?_)
        refine lv_aload_n F.1 F.2.1 dX7_alike_41 rfl (lv_at hl 0 rfl) ?_
        refine r_getN F I hr_a0 hk_a0 fX7_29 (f := 4) rfl (by decide) dX7_alike_42 h (fun b7 hr_b7 hk_b7 h => ?_)
        refine lv_iload_n F.1 F.2.1 dX7_alike_45 rfl (lv_at hl 1 rfl) ?_
        refine g_L I (run_V (As := [.int a1]) (rest := []) F I hr_b7 hk_b7 (by decide) kX7_152 (ctX4_packed hr_b7 hk_b7 h) ⟨rfl, rfl⟩ ⟨Nat.le_of_ble_eq_true rfl, Nat.le_of_ble_eq_true rfl⟩ rfl hl.1 rfl (Nat.le_of_ble_eq_true rfl) ⟨Nat.le_of_ble_eq_true rfl, Nat.le_of_ble_eq_true rfl⟩ dX7_alike_46) (fun z8 S H locs I h => ?_)
        refine lv_aload_n F.1 F.2.1 dX7_alike_49 rfl (lv_at hl 0 rfl) ?_
        refine r_getN F I hr_a0 hk_a0 fX7_29 (f := 4) rfl (by decide) dX7_alike_50 h (fun b9 hr_b9 hk_b9 h => ?_)
        refine lv_iload_n F.1 F.2.1 dX7_alike_53 rfl (lv_at hl 2 rfl) ?_
        refine g_L I (run_V (As := [.int a2]) (rest := [.long z8]) F I hr_b9 hk_b9 (by decide) kX7_152 (ctX4_packed hr_b9 hk_b9 h) ⟨rfl, rfl⟩ ⟨Nat.le_of_ble_eq_true rfl, Nat.le_of_ble_eq_true rfl⟩ rfl hl.1 rfl (Nat.le_of_ble_eq_true rfl) ⟨Nat.le_of_ble_eq_true rfl, Nat.le_of_ble_eq_true rfl⟩ dX7_alike_54) (fun z10 S H locs I h => ?_)
        refine r_lcmp F dX7_alike_57 h (fun z11 h => ?_)
        refine r_if_ne (tgt := 65) F dX7_alike_58 (by decide) h (fun h => ?_) (fun h => ?_)
        · refine lv_iconst (v := 0) F.1 F.2.1 dX7_alike_65 (by decide) ?_
          exact r_ireturn F I ⟨hr.1, hr.2.1, trivial⟩ h dX7_alike_66
        · refine lv_iconst (v := 1) F.1 F.2.1 dX7_alike_61 (by decide) ?_
          refine lv_goto (tgt := 66) F.1 F.2.1 dX7_alike_62 (by decide) ?_
          exact r_ireturn F I ⟨hr.1, hr.2.1, trivial⟩ h dX7_alike_66
      · exact hj_27 S _ _ _   h I (lv_sub hl [] rfl)
theorem bdX7_land_0 : ∀ q ∈ ([(0, .iload_n 1, 1), (32, .aload_n 0, 1), (33, .getfield 29, 3), (36, .aload_n 0, 1), (37, .getfield 10, 3), (40, .invokevirtual 149, 3), (43, .aload_n 0, 1), (44, .getfield 29, 3), (47, .invokevirtual 156, 3), (50, .ireturn, 1), (51, .aload_n 0, 1), (52, .getfield 10, 3), (55, .iconst 0, 1), (56, .invokevirtual 160, 3), (59, .ireturn, 1), (60, .aload_n 0, 1), (61, .getfield 10, 3), (64, .iconst 1, 1), (65, .invokevirtual 160, 3), (68, .ireturn, 1), (69, .aload_n 0, 1), (70, .getfield 10, 3), (73, .invokevirtual 164, 3), (76, .ireturn, 1), (77, .ldc 73, 2), (79, .ireturn, 1)] : List (Nat × Jvm.ClassFile.Instr × Nat)), decode cX7_land q.1 = .ok q.2 := chk_ok _ 0 _ rfl (by decide +kernel)
theorem dX7_land_0 : decode cX7_land 0 = .ok (.iload_n 1, 1) := bdX7_land_0 (0, .iload_n 1, 1) (List.mem_of_getElem? (i := 0) rfl)
theorem dX7_land_32 : decode cX7_land 32 = .ok (.aload_n 0, 1) := bdX7_land_0 (32, .aload_n 0, 1) (List.mem_of_getElem? (i := 1) rfl)
theorem dX7_land_33 : decode cX7_land 33 = .ok (.getfield 29, 3) := bdX7_land_0 (33, .getfield 29, 3) (List.mem_of_getElem? (i := 2) rfl)
theorem dX7_land_36 : decode cX7_land 36 = .ok (.aload_n 0, 1) := bdX7_land_0 (36, .aload_n 0, 1) (List.mem_of_getElem? (i := 3) rfl)
theorem dX7_land_37 : decode cX7_land 37 = .ok (.getfield 10, 3) := bdX7_land_0 (37, .getfield 10, 3) (List.mem_of_getElem? (i := 4) rfl)
theorem dX7_land_40 : decode cX7_land 40 = .ok (.invokevirtual 149, 3) := bdX7_land_0 (40, .invokevirtual 149, 3) (List.mem_of_getElem? (i := 5) rfl)
theorem dX7_land_43 : decode cX7_land 43 = .ok (.aload_n 0, 1) := bdX7_land_0 (43, .aload_n 0, 1) (List.mem_of_getElem? (i := 6) rfl)
theorem dX7_land_44 : decode cX7_land 44 = .ok (.getfield 29, 3) := bdX7_land_0 (44, .getfield 29, 3) (List.mem_of_getElem? (i := 7) rfl)
theorem dX7_land_47 : decode cX7_land 47 = .ok (.invokevirtual 156, 3) := bdX7_land_0 (47, .invokevirtual 156, 3) (List.mem_of_getElem? (i := 8) rfl)
theorem dX7_land_50 : decode cX7_land 50 = .ok (.ireturn, 1) := bdX7_land_0 (50, .ireturn, 1) (List.mem_of_getElem? (i := 9) rfl)
theorem dX7_land_51 : decode cX7_land 51 = .ok (.aload_n 0, 1) := bdX7_land_0 (51, .aload_n 0, 1) (List.mem_of_getElem? (i := 10) rfl)
theorem dX7_land_52 : decode cX7_land 52 = .ok (.getfield 10, 3) := bdX7_land_0 (52, .getfield 10, 3) (List.mem_of_getElem? (i := 11) rfl)
theorem dX7_land_55 : decode cX7_land 55 = .ok (.iconst 0, 1) := bdX7_land_0 (55, .iconst 0, 1) (List.mem_of_getElem? (i := 12) rfl)
theorem dX7_land_56 : decode cX7_land 56 = .ok (.invokevirtual 160, 3) := bdX7_land_0 (56, .invokevirtual 160, 3) (List.mem_of_getElem? (i := 13) rfl)
theorem dX7_land_59 : decode cX7_land 59 = .ok (.ireturn, 1) := bdX7_land_0 (59, .ireturn, 1) (List.mem_of_getElem? (i := 14) rfl)
theorem dX7_land_60 : decode cX7_land 60 = .ok (.aload_n 0, 1) := bdX7_land_0 (60, .aload_n 0, 1) (List.mem_of_getElem? (i := 15) rfl)
theorem dX7_land_61 : decode cX7_land 61 = .ok (.getfield 10, 3) := bdX7_land_0 (61, .getfield 10, 3) (List.mem_of_getElem? (i := 16) rfl)
theorem dX7_land_64 : decode cX7_land 64 = .ok (.iconst 1, 1) := bdX7_land_0 (64, .iconst 1, 1) (List.mem_of_getElem? (i := 17) rfl)
theorem dX7_land_65 : decode cX7_land 65 = .ok (.invokevirtual 160, 3) := bdX7_land_0 (65, .invokevirtual 160, 3) (List.mem_of_getElem? (i := 18) rfl)
theorem dX7_land_68 : decode cX7_land 68 = .ok (.ireturn, 1) := bdX7_land_0 (68, .ireturn, 1) (List.mem_of_getElem? (i := 19) rfl)
theorem dX7_land_69 : decode cX7_land 69 = .ok (.aload_n 0, 1) := bdX7_land_0 (69, .aload_n 0, 1) (List.mem_of_getElem? (i := 20) rfl)
theorem dX7_land_70 : decode cX7_land 70 = .ok (.getfield 10, 3) := bdX7_land_0 (70, .getfield 10, 3) (List.mem_of_getElem? (i := 21) rfl)
theorem dX7_land_73 : decode cX7_land 73 = .ok (.invokevirtual 164, 3) := bdX7_land_0 (73, .invokevirtual 164, 3) (List.mem_of_getElem? (i := 22) rfl)
theorem dX7_land_76 : decode cX7_land 76 = .ok (.ireturn, 1) := bdX7_land_0 (76, .ireturn, 1) (List.mem_of_getElem? (i := 23) rfl)
theorem dX7_land_77 : decode cX7_land 77 = .ok (.ldc 73, 2) := bdX7_land_0 (77, .ldc 73, 2) (List.mem_of_getElem? (i := 24) rfl)
theorem dX7_land_79 : decode cX7_land 79 = .ok (.ireturn, 1) := bdX7_land_0 (79, .ireturn, 1) (List.mem_of_getElem? (i := 25) rfl)
theorem dX7_land_1 : decode cX7_land 1 = .ok (.tableswitch 76 0 3 #[31, 50, 59, 68], 31) := by decide +kernel
theorem kX7_156 : mthV RX7 156 4 yX4_clashes prog_6_method_11_code 4 (Option.some Jvm.ClassFile.FieldType.int) 0 := ⟨⟨⟨tw_508, tw_62, tw_511⟩, rfl, by decide +kernel⟩, tw_509, tw_510, rfl⟩
theorem kX7_160 : mthV RX7 160 0 yX0_howMany prog_2_method_11_code 4 (Option.some Jvm.ClassFile.FieldType.int) 1 := ⟨⟨⟨tw_513, tw_61, tw_484⟩, rfl, by decide +kernel⟩, tw_482, tw_483, rfl⟩
theorem kX7_164 : mthV RX7 164 0 yX0_heiresses prog_2_method_15_code 3 (Option.some Jvm.ClassFile.FieldType.int) 0 := ⟨⟨⟨tw_514, tw_61, tw_383⟩, rfl, by decide +kernel⟩, tw_381, tw_382, rfl⟩
def wpX7_land (ln : Nat → Nat) (S : HC) (a0 : Nat) (a1 : Int32) (post : Int32 → HC → Prop) : Prop := if a1 = (0 : Int32) then (dn_ (hR S a0 4) fun b1 => dn_ (hR S a0 0) fun b2 => wpX4_workOutAll ln S b1 b2 fun S => dn_ (hR S a0 4) fun b3 => wpX4_clashes ln S b3 fun z4 S => post z4 S) else if a1 = (1 : Int32) then (dn_ (hR S a0 0) fun b5 => wpX0_howMany ln S b5 (0 : Int32) fun z6 S => post z6 S) else if a1 = (2 : Int32) then (dn_ (hR S a0 0) fun b7 => wpX0_howMany ln S b7 (1 : Int32) fun z8 S => post z8 S) else if a1 = (3 : Int32) then (dn_ (hR S a0 0) fun b9 => wpX0_heiresses ln S b9 fun z10 S => post z10 S) else post (-1000000001 : Int32) S
abbrev rmX7_land : Room := { frames := 6, cells := 0, slots := 0, locals := 143 }
set_option maxHeartbeats 4000000 in
set_option maxRecDepth 100000 in
theorem ctX7_land {l : Launch} {g : GX} {N : Nat} {ln : Nat → Nat} {S : HC} {a0 : Nat} {a1 : Int32} {post : Int32 → HC → Prop} (hr_a0 : a0 < N) (hk_a0 : kd a0 = 7) (h : wpX7_land ln S a0 a1 post) : Met l yX7_land (Cond.code yX7_land prog_1_method_13_code 2 (Option.some Jvm.ClassFile.FieldType.int) :: gtbl) rmX7_land (va_Pc [.ref (gz g + a0), .int a1] (AtP g N ln S)) (QI g N ln post) 0 0 (gF g) := by
  refine m_of (by decide) (Nat.le_of_ble_eq_true rfl) ?_
  intro p e s m below meth c ls F hr I hl
  have hl : lv_has ls 2 [(0, .ref (gz g + a0)), (1, .int a1)] := hl
  unfold wpX7_land at h
  refine lv_iload_n F.1 F.2.1 dX7_land_0 rfl (lv_at hl 1 rfl) ?_
  by_cases c0 : a1 = (0 : Int32)
  · rw [if_pos c0] at h
    refine lv_tableIn (off := 31) (tgt := 32) F.1 F.2.1 dX7_land_1 (by rw [c0]; decide) (by rw [c0]; decide) (by rw [c0]; rfl) (by decide) ?_
    refine lv_aload_n F.1 F.2.1 dX7_land_32 rfl (lv_at hl 0 rfl) ?_
    refine r_getN F I hr_a0 hk_a0 fX7_29 (f := 4) rfl (by decide) dX7_land_33 h (fun b1 hr_b1 hk_b1 h => ?_)
    refine lv_aload_n F.1 F.2.1 dX7_land_36 rfl (lv_at hl 0 rfl) ?_
    refine r_getN F I hr_a0 hk_a0 fX7_10 (f := 0) rfl (by decide) dX7_land_37 h (fun b2 hr_b2 hk_b2 h => ?_)
    refine g_V I (run_V (As := [.ref (gz g + b2)]) (rest := []) F I hr_b1 hk_b1 (by decide) kX7_149 (ctX4_workOutAll hr_b1 hk_b1 hr_b2 hk_b2 h) ⟨rfl, rfl⟩ ⟨Nat.le_of_ble_eq_true rfl, Nat.le_of_ble_eq_true rfl⟩ rfl hl.1 rfl (Nat.le_of_ble_eq_true rfl) ⟨Nat.le_of_ble_eq_true rfl, Nat.le_of_ble_eq_true rfl⟩ dX7_land_40) (fun S H locs I h => ?_)
    refine lv_aload_n F.1 F.2.1 dX7_land_43 rfl (lv_at hl 0 rfl) ?_
    refine r_getN F I hr_a0 hk_a0 fX7_29 (f := 4) rfl (by decide) dX7_land_44 h (fun b3 hr_b3 hk_b3 h => ?_)
    refine g_I I (run_V (As := []) (rest := []) F I hr_b3 hk_b3 (by decide) kX7_156 (ctX4_clashes hr_b3 hk_b3 h) ⟨rfl, rfl⟩ ⟨Nat.le_of_ble_eq_true rfl, Nat.le_of_ble_eq_true rfl⟩ rfl hl.1 rfl (Nat.le_of_ble_eq_true rfl) ⟨Nat.le_of_ble_eq_true rfl, Nat.le_of_ble_eq_true rfl⟩ dX7_land_47) (fun z4 S H locs I h => ?_)
    exact r_ireturn F I ⟨hr.1, hr.2.1, trivial⟩ h dX7_land_50
  · rw [if_neg c0] at h
    by_cases c1 : a1 = (1 : Int32)
    · rw [if_pos c1] at h
      refine lv_tableIn (off := 50) (tgt := 51) F.1 F.2.1 dX7_land_1 (by rw [c1]; decide) (by rw [c1]; decide) (by rw [c1]; rfl) (by decide) ?_
      refine lv_aload_n F.1 F.2.1 dX7_land_51 rfl (lv_at hl 0 rfl) ?_
      refine r_getN F I hr_a0 hk_a0 fX7_10 (f := 0) rfl (by decide) dX7_land_52 h (fun b5 hr_b5 hk_b5 h => ?_)
      refine lv_iconst (v := 0) F.1 F.2.1 dX7_land_55 (by decide) ?_
      refine g_I I (run_V (As := [.int (0 : Int32)]) (rest := []) F I hr_b5 hk_b5 (by decide) kX7_160 (ctX0_howMany hr_b5 hk_b5 h) ⟨rfl, rfl⟩ ⟨Nat.le_of_ble_eq_true rfl, Nat.le_of_ble_eq_true rfl⟩ rfl hl.1 rfl (Nat.le_of_ble_eq_true rfl) ⟨Nat.le_of_ble_eq_true rfl, Nat.le_of_ble_eq_true rfl⟩ dX7_land_56) (fun z6 S H locs I h => ?_)
      exact r_ireturn F I ⟨hr.1, hr.2.1, trivial⟩ h dX7_land_59
    · rw [if_neg c1] at h
      by_cases c2 : a1 = (2 : Int32)
      · rw [if_pos c2] at h
        refine lv_tableIn (off := 59) (tgt := 60) F.1 F.2.1 dX7_land_1 (by rw [c2]; decide) (by rw [c2]; decide) (by rw [c2]; rfl) (by decide) ?_
        refine lv_aload_n F.1 F.2.1 dX7_land_60 rfl (lv_at hl 0 rfl) ?_
        refine r_getN F I hr_a0 hk_a0 fX7_10 (f := 0) rfl (by decide) dX7_land_61 h (fun b7 hr_b7 hk_b7 h => ?_)
        refine lv_iconst (v := 1) F.1 F.2.1 dX7_land_64 (by decide) ?_
        refine g_I I (run_V (As := [.int (1 : Int32)]) (rest := []) F I hr_b7 hk_b7 (by decide) kX7_160 (ctX0_howMany hr_b7 hk_b7 h) ⟨rfl, rfl⟩ ⟨Nat.le_of_ble_eq_true rfl, Nat.le_of_ble_eq_true rfl⟩ rfl hl.1 rfl (Nat.le_of_ble_eq_true rfl) ⟨Nat.le_of_ble_eq_true rfl, Nat.le_of_ble_eq_true rfl⟩ dX7_land_65) (fun z8 S H locs I h => ?_)
        exact r_ireturn F I ⟨hr.1, hr.2.1, trivial⟩ h dX7_land_68
      · rw [if_neg c2] at h
        by_cases c3 : a1 = (3 : Int32)
        · rw [if_pos c3] at h
          refine lv_tableIn (off := 68) (tgt := 69) F.1 F.2.1 dX7_land_1 (by rw [c3]; decide) (by rw [c3]; decide) (by rw [c3]; rfl) (by decide) ?_
          refine lv_aload_n F.1 F.2.1 dX7_land_69 rfl (lv_at hl 0 rfl) ?_
          refine r_getN F I hr_a0 hk_a0 fX7_10 (f := 0) rfl (by decide) dX7_land_70 h (fun b9 hr_b9 hk_b9 h => ?_)
          refine g_I I (run_V (As := []) (rest := []) F I hr_b9 hk_b9 (by decide) kX7_164 (ctX0_heiresses hr_b9 hk_b9 h) ⟨rfl, rfl⟩ ⟨Nat.le_of_ble_eq_true rfl, Nat.le_of_ble_eq_true rfl⟩ rfl hl.1 rfl (Nat.le_of_ble_eq_true rfl) ⟨Nat.le_of_ble_eq_true rfl, Nat.le_of_ble_eq_true rfl⟩ dX7_land_73) (fun z10 S H locs I h => ?_)
          exact r_ireturn F I ⟨hr.1, hr.2.1, trivial⟩ h dX7_land_76
        · rw [if_neg c3] at h
          have e0 := lv_neT (a := 0) c0 (by decide)
          have e1 := lv_neT (a := 1) c1 (by decide)
          have e2 := lv_neT (a := 2) c2 (by decide)
          have e3 := lv_neT (a := 3) c3 (by decide)
          refine lv_tableOut (tgt := 77) F.1 F.2.1 dX7_land_1 (by omega) (by decide) ?_
          refine lv_ldc F.1 F.2.1 F.2.2.2.1 (F.2.2.2.2 _ tw_334) dX7_land_77 ?_
          exact r_ireturn F I ⟨hr.1, hr.2.1, trivial⟩ h dX7_land_79
theorem bdX7_sixteenth_0 : ∀ q ∈ ([(0, .iload_n 1, 1), (1, .invokestatic 74, 3), (4, .ifCond .ne 6, 3), (7, .ldc 73, 2), (9, .ireturn, 1), (10, .aload_n 0, 1), (11, .getfield 29, 3), (14, .aload_n 0, 1), (15, .getfield 10, 3), (18, .invokevirtual 114, 3), (21, .aload_n 0, 1), (22, .getfield 29, 3), (25, .iload_n 1, 1), (26, .invokevirtual 118, 3), (29, .aload_n 0, 1), (30, .getfield 29, 3), (33, .iload_n 1, 1), (34, .iconst 4, 1), (35, .invokevirtual 167, 3), (38, .ireturn, 1)] : List (Nat × Jvm.ClassFile.Instr × Nat)), decode cX7_sixteenth q.1 = .ok q.2 := chk_ok _ 0 _ rfl (by decide +kernel)
theorem dX7_sixteenth_0 : decode cX7_sixteenth 0 = .ok (.iload_n 1, 1) := bdX7_sixteenth_0 (0, .iload_n 1, 1) (List.mem_of_getElem? (i := 0) rfl)
theorem dX7_sixteenth_1 : decode cX7_sixteenth 1 = .ok (.invokestatic 74, 3) := bdX7_sixteenth_0 (1, .invokestatic 74, 3) (List.mem_of_getElem? (i := 1) rfl)
theorem dX7_sixteenth_4 : decode cX7_sixteenth 4 = .ok (.ifCond .ne 6, 3) := bdX7_sixteenth_0 (4, .ifCond .ne 6, 3) (List.mem_of_getElem? (i := 2) rfl)
theorem dX7_sixteenth_7 : decode cX7_sixteenth 7 = .ok (.ldc 73, 2) := bdX7_sixteenth_0 (7, .ldc 73, 2) (List.mem_of_getElem? (i := 3) rfl)
theorem dX7_sixteenth_9 : decode cX7_sixteenth 9 = .ok (.ireturn, 1) := bdX7_sixteenth_0 (9, .ireturn, 1) (List.mem_of_getElem? (i := 4) rfl)
theorem dX7_sixteenth_10 : decode cX7_sixteenth 10 = .ok (.aload_n 0, 1) := bdX7_sixteenth_0 (10, .aload_n 0, 1) (List.mem_of_getElem? (i := 5) rfl)
theorem dX7_sixteenth_11 : decode cX7_sixteenth 11 = .ok (.getfield 29, 3) := bdX7_sixteenth_0 (11, .getfield 29, 3) (List.mem_of_getElem? (i := 6) rfl)
theorem dX7_sixteenth_14 : decode cX7_sixteenth 14 = .ok (.aload_n 0, 1) := bdX7_sixteenth_0 (14, .aload_n 0, 1) (List.mem_of_getElem? (i := 7) rfl)
theorem dX7_sixteenth_15 : decode cX7_sixteenth 15 = .ok (.getfield 10, 3) := bdX7_sixteenth_0 (15, .getfield 10, 3) (List.mem_of_getElem? (i := 8) rfl)
theorem dX7_sixteenth_18 : decode cX7_sixteenth 18 = .ok (.invokevirtual 114, 3) := bdX7_sixteenth_0 (18, .invokevirtual 114, 3) (List.mem_of_getElem? (i := 9) rfl)
theorem dX7_sixteenth_21 : decode cX7_sixteenth 21 = .ok (.aload_n 0, 1) := bdX7_sixteenth_0 (21, .aload_n 0, 1) (List.mem_of_getElem? (i := 10) rfl)
theorem dX7_sixteenth_22 : decode cX7_sixteenth 22 = .ok (.getfield 29, 3) := bdX7_sixteenth_0 (22, .getfield 29, 3) (List.mem_of_getElem? (i := 11) rfl)
theorem dX7_sixteenth_25 : decode cX7_sixteenth 25 = .ok (.iload_n 1, 1) := bdX7_sixteenth_0 (25, .iload_n 1, 1) (List.mem_of_getElem? (i := 12) rfl)
theorem dX7_sixteenth_26 : decode cX7_sixteenth 26 = .ok (.invokevirtual 118, 3) := bdX7_sixteenth_0 (26, .invokevirtual 118, 3) (List.mem_of_getElem? (i := 13) rfl)
theorem dX7_sixteenth_29 : decode cX7_sixteenth 29 = .ok (.aload_n 0, 1) := bdX7_sixteenth_0 (29, .aload_n 0, 1) (List.mem_of_getElem? (i := 14) rfl)
theorem dX7_sixteenth_30 : decode cX7_sixteenth 30 = .ok (.getfield 29, 3) := bdX7_sixteenth_0 (30, .getfield 29, 3) (List.mem_of_getElem? (i := 15) rfl)
theorem dX7_sixteenth_33 : decode cX7_sixteenth 33 = .ok (.iload_n 1, 1) := bdX7_sixteenth_0 (33, .iload_n 1, 1) (List.mem_of_getElem? (i := 16) rfl)
theorem dX7_sixteenth_34 : decode cX7_sixteenth 34 = .ok (.iconst 4, 1) := bdX7_sixteenth_0 (34, .iconst 4, 1) (List.mem_of_getElem? (i := 17) rfl)
theorem dX7_sixteenth_35 : decode cX7_sixteenth 35 = .ok (.invokevirtual 167, 3) := bdX7_sixteenth_0 (35, .invokevirtual 167, 3) (List.mem_of_getElem? (i := 18) rfl)
theorem dX7_sixteenth_38 : decode cX7_sixteenth 38 = .ok (.ireturn, 1) := bdX7_sixteenth_0 (38, .ireturn, 1) (List.mem_of_getElem? (i := 19) rfl)
theorem kX7_167 : mthV RX7 167 4 yX4_bearersOf prog_6_method_13_code 5 (Option.some Jvm.ClassFile.FieldType.int) 2 := ⟨⟨⟨tw_519, tw_62, tw_522⟩, rfl, by decide +kernel⟩, tw_520, tw_521, rfl⟩
def wpX7_sixteenth (ln : Nat → Nat) (S : HC) (a0 : Nat) (a1 : Int32) (post : Int32 → HC → Prop) : Prop := wpX7_isCharge ln S a1 fun z1 S => if z1 = 0 then (post (-1000000001 : Int32) S) else (dn_ (hR S a0 4) fun b2 => dn_ (hR S a0 0) fun b3 => wpX4_lookAt ln S b2 b3 fun S => dn_ (hR S a0 4) fun b4 => wpX4_workOut ln S b4 a1 fun S => dn_ (hR S a0 4) fun b5 => wpX4_bearersOf ln S b5 a1 (4 : Int32) fun z6 S => post z6 S)
abbrev rmX7_sixteenth : Room := { frames := 5, cells := 0, slots := 0, locals := 121 }
set_option maxHeartbeats 4000000 in
set_option maxRecDepth 100000 in
theorem ctX7_sixteenth {l : Launch} {g : GX} {N : Nat} {ln : Nat → Nat} {S : HC} {a0 : Nat} {a1 : Int32} {post : Int32 → HC → Prop} (hr_a0 : a0 < N) (hk_a0 : kd a0 = 7) (h : wpX7_sixteenth ln S a0 a1 post) : Met l yX7_sixteenth (Cond.code yX7_sixteenth prog_1_method_14_code 2 (Option.some Jvm.ClassFile.FieldType.int) :: gtbl) rmX7_sixteenth (va_Pc [.ref (gz g + a0), .int a1] (AtP g N ln S)) (QI g N ln post) 0 0 (gF g) := by
  refine m_of (by decide) (Nat.le_of_ble_eq_true rfl) ?_
  intro p e s m below meth c ls F hr I hl
  have hl : lv_has ls 2 [(0, .ref (gz g + a0)), (1, .int a1)] := hl
  unfold wpX7_sixteenth at h
  refine lv_iload_n F.1 F.2.1 dX7_sixteenth_0 rfl (lv_at hl 1 rfl) ?_
  refine g_I I (run_S (As := [.int a1]) (rest := []) F I kX7_74 (ctX7_isCharge h) ⟨rfl, rfl⟩ ⟨Nat.le_of_ble_eq_true rfl, Nat.le_of_ble_eq_true rfl⟩ rfl hl.1 rfl (Nat.le_of_ble_eq_true rfl) ⟨Nat.le_of_ble_eq_true rfl, Nat.le_of_ble_eq_true rfl⟩ dX7_sixteenth_1) (fun z1 S H locs I h => ?_)
  refine r_if_ne (tgt := 10) F dX7_sixteenth_4 (by decide) h (fun h => ?_) (fun h => ?_)
  · refine lv_aload_n F.1 F.2.1 dX7_sixteenth_10 rfl (lv_at hl 0 rfl) ?_
    refine r_getN F I hr_a0 hk_a0 fX7_29 (f := 4) rfl (by decide) dX7_sixteenth_11 h (fun b2 hr_b2 hk_b2 h => ?_)
    refine lv_aload_n F.1 F.2.1 dX7_sixteenth_14 rfl (lv_at hl 0 rfl) ?_
    refine r_getN F I hr_a0 hk_a0 fX7_10 (f := 0) rfl (by decide) dX7_sixteenth_15 h (fun b3 hr_b3 hk_b3 h => ?_)
    refine g_V I (run_V (As := [.ref (gz g + b3)]) (rest := []) F I hr_b2 hk_b2 (by decide) kX7_114 (ctX4_lookAt hr_b2 hk_b2 hr_b3 hk_b3 h) ⟨rfl, rfl⟩ ⟨Nat.le_of_ble_eq_true rfl, Nat.le_of_ble_eq_true rfl⟩ rfl hl.1 rfl (Nat.le_of_ble_eq_true rfl) ⟨Nat.le_of_ble_eq_true rfl, Nat.le_of_ble_eq_true rfl⟩ dX7_sixteenth_18) (fun S H locs I h => ?_)
    refine lv_aload_n F.1 F.2.1 dX7_sixteenth_21 rfl (lv_at hl 0 rfl) ?_
    refine r_getN F I hr_a0 hk_a0 fX7_29 (f := 4) rfl (by decide) dX7_sixteenth_22 h (fun b4 hr_b4 hk_b4 h => ?_)
    refine lv_iload_n F.1 F.2.1 dX7_sixteenth_25 rfl (lv_at hl 1 rfl) ?_
    refine g_V I (run_V (As := [.int a1]) (rest := []) F I hr_b4 hk_b4 (by decide) kX7_118 (ctX4_workOut hr_b4 hk_b4 h) ⟨rfl, rfl⟩ ⟨Nat.le_of_ble_eq_true rfl, Nat.le_of_ble_eq_true rfl⟩ rfl hl.1 rfl (Nat.le_of_ble_eq_true rfl) ⟨Nat.le_of_ble_eq_true rfl, Nat.le_of_ble_eq_true rfl⟩ dX7_sixteenth_26) (fun S H locs I h => ?_)
    refine lv_aload_n F.1 F.2.1 dX7_sixteenth_29 rfl (lv_at hl 0 rfl) ?_
    refine r_getN F I hr_a0 hk_a0 fX7_29 (f := 4) rfl (by decide) dX7_sixteenth_30 h (fun b5 hr_b5 hk_b5 h => ?_)
    refine lv_iload_n F.1 F.2.1 dX7_sixteenth_33 rfl (lv_at hl 1 rfl) ?_
    refine lv_iconst (v := 4) F.1 F.2.1 dX7_sixteenth_34 (by decide) ?_
    refine g_I I (run_V (As := [.int a1, .int (4 : Int32)]) (rest := []) F I hr_b5 hk_b5 (by decide) kX7_167 (ctX4_bearersOf hr_b5 hk_b5 h) ⟨rfl, rfl⟩ ⟨Nat.le_of_ble_eq_true rfl, Nat.le_of_ble_eq_true rfl⟩ rfl hl.1 rfl (Nat.le_of_ble_eq_true rfl) ⟨Nat.le_of_ble_eq_true rfl, Nat.le_of_ble_eq_true rfl⟩ dX7_sixteenth_35) (fun z6 S H locs I h => ?_)
    exact r_ireturn F I ⟨hr.1, hr.2.1, trivial⟩ h dX7_sixteenth_38
  · refine lv_ldc F.1 F.2.1 F.2.2.2.1 (F.2.2.2.2 _ tw_334) dX7_sixteenth_7 ?_
    exact r_ireturn F I ⟨hr.1, hr.2.1, trivial⟩ h dX7_sixteenth_9
theorem bdX7_from_0 : ∀ q ∈ ([(0, .aload_n 0, 1), (1, .getfield 10, 3), (4, .iload_n 1, 1), (5, .invokevirtual 86, 3), (8, .ifCond .eq 10, 3), (11, .iload_n 2, 1), (12, .invokestatic 74, 3), (15, .ifCond .ne 6, 3), (18, .ldc 73, 2), (20, .ireturn, 1), (21, .aload_n 0, 1), (22, .getfield 10, 3), (25, .iload_n 1, 1), (26, .iload_n 2, 1), (27, .invokevirtual 170, 3), (30, .istore_n 3, 1), (31, .iload_n 3, 1), (32, .iconst (-1), 1), (33, .if_icmp .ne 8, 3), (36, .ldc 173, 2), (38, .goto 4, 3), (41, .iload_n 3, 1), (42, .ireturn, 1)] : List (Nat × Jvm.ClassFile.Instr × Nat)), decode cX7_from q.1 = .ok q.2 := chk_ok _ 0 _ rfl (by decide +kernel)
theorem dX7_from_0 : decode cX7_from 0 = .ok (.aload_n 0, 1) := bdX7_from_0 (0, .aload_n 0, 1) (List.mem_of_getElem? (i := 0) rfl)
theorem dX7_from_1 : decode cX7_from 1 = .ok (.getfield 10, 3) := bdX7_from_0 (1, .getfield 10, 3) (List.mem_of_getElem? (i := 1) rfl)
theorem dX7_from_4 : decode cX7_from 4 = .ok (.iload_n 1, 1) := bdX7_from_0 (4, .iload_n 1, 1) (List.mem_of_getElem? (i := 2) rfl)
theorem dX7_from_5 : decode cX7_from 5 = .ok (.invokevirtual 86, 3) := bdX7_from_0 (5, .invokevirtual 86, 3) (List.mem_of_getElem? (i := 3) rfl)
theorem dX7_from_8 : decode cX7_from 8 = .ok (.ifCond .eq 10, 3) := bdX7_from_0 (8, .ifCond .eq 10, 3) (List.mem_of_getElem? (i := 4) rfl)
theorem dX7_from_11 : decode cX7_from 11 = .ok (.iload_n 2, 1) := bdX7_from_0 (11, .iload_n 2, 1) (List.mem_of_getElem? (i := 5) rfl)
theorem dX7_from_12 : decode cX7_from 12 = .ok (.invokestatic 74, 3) := bdX7_from_0 (12, .invokestatic 74, 3) (List.mem_of_getElem? (i := 6) rfl)
theorem dX7_from_15 : decode cX7_from 15 = .ok (.ifCond .ne 6, 3) := bdX7_from_0 (15, .ifCond .ne 6, 3) (List.mem_of_getElem? (i := 7) rfl)
theorem dX7_from_18 : decode cX7_from 18 = .ok (.ldc 73, 2) := bdX7_from_0 (18, .ldc 73, 2) (List.mem_of_getElem? (i := 8) rfl)
theorem dX7_from_20 : decode cX7_from 20 = .ok (.ireturn, 1) := bdX7_from_0 (20, .ireturn, 1) (List.mem_of_getElem? (i := 9) rfl)
theorem dX7_from_21 : decode cX7_from 21 = .ok (.aload_n 0, 1) := bdX7_from_0 (21, .aload_n 0, 1) (List.mem_of_getElem? (i := 10) rfl)
theorem dX7_from_22 : decode cX7_from 22 = .ok (.getfield 10, 3) := bdX7_from_0 (22, .getfield 10, 3) (List.mem_of_getElem? (i := 11) rfl)
theorem dX7_from_25 : decode cX7_from 25 = .ok (.iload_n 1, 1) := bdX7_from_0 (25, .iload_n 1, 1) (List.mem_of_getElem? (i := 12) rfl)
theorem dX7_from_26 : decode cX7_from 26 = .ok (.iload_n 2, 1) := bdX7_from_0 (26, .iload_n 2, 1) (List.mem_of_getElem? (i := 13) rfl)
theorem dX7_from_27 : decode cX7_from 27 = .ok (.invokevirtual 170, 3) := bdX7_from_0 (27, .invokevirtual 170, 3) (List.mem_of_getElem? (i := 14) rfl)
theorem dX7_from_30 : decode cX7_from 30 = .ok (.istore_n 3, 1) := bdX7_from_0 (30, .istore_n 3, 1) (List.mem_of_getElem? (i := 15) rfl)
theorem dX7_from_31 : decode cX7_from 31 = .ok (.iload_n 3, 1) := bdX7_from_0 (31, .iload_n 3, 1) (List.mem_of_getElem? (i := 16) rfl)
theorem dX7_from_32 : decode cX7_from 32 = .ok (.iconst (-1), 1) := bdX7_from_0 (32, .iconst (-1), 1) (List.mem_of_getElem? (i := 17) rfl)
theorem dX7_from_33 : decode cX7_from 33 = .ok (.if_icmp .ne 8, 3) := bdX7_from_0 (33, .if_icmp .ne 8, 3) (List.mem_of_getElem? (i := 18) rfl)
theorem dX7_from_36 : decode cX7_from 36 = .ok (.ldc 173, 2) := bdX7_from_0 (36, .ldc 173, 2) (List.mem_of_getElem? (i := 19) rfl)
theorem dX7_from_38 : decode cX7_from 38 = .ok (.goto 4, 3) := bdX7_from_0 (38, .goto 4, 3) (List.mem_of_getElem? (i := 20) rfl)
theorem dX7_from_41 : decode cX7_from 41 = .ok (.iload_n 3, 1) := bdX7_from_0 (41, .iload_n 3, 1) (List.mem_of_getElem? (i := 21) rfl)
theorem dX7_from_42 : decode cX7_from 42 = .ok (.ireturn, 1) := bdX7_from_0 (42, .ireturn, 1) (List.mem_of_getElem? (i := 22) rfl)
theorem kX7_170 : mthV RX7 170 0 yX0_oldestFounder prog_2_method_16_code 6 (Option.some Jvm.ClassFile.FieldType.int) 2 := ⟨⟨⟨tw_527, tw_61, tw_530⟩, rfl, by decide +kernel⟩, tw_528, tw_529, rfl⟩
def BX7_from_18 (ln : Nat → Nat) (post : Int32 → HC → Prop) (S : HC)  : Prop := post (-1000000001 : Int32) S
def wpX7_from (ln : Nat → Nat) (S : HC) (a0 : Nat) (a1 : Int32) (a2 : Int32) (post : Int32 → HC → Prop) : Prop := dn_ (hR S a0 0) fun b1 => wpX0_has ln S b1 a1 fun z2 S => if z2 = 0 then (BX7_from_18 ln post S) else (wpX7_isCharge ln S a2 fun z3 S => if z3 = 0 then (BX7_from_18 ln post S) else (dn_ (hR S a0 0) fun b4 => wpX0_oldestFounder ln S b4 a1 a2 fun z5 S => if z5 = (-1 : Int32) then (post (-1000000005 : Int32) S) else (post z5 S)))
abbrev rmX7_from : Room := { frames := 2, cells := 0, slots := 0, locals := 46 }
set_option maxHeartbeats 4000000 in
set_option maxRecDepth 100000 in
theorem ctX7_from {l : Launch} {g : GX} {N : Nat} {ln : Nat → Nat} {S : HC} {a0 : Nat} {a1 : Int32} {a2 : Int32} {post : Int32 → HC → Prop} (hr_a0 : a0 < N) (hk_a0 : kd a0 = 7) (h : wpX7_from ln S a0 a1 a2 post) : Met l yX7_from (Cond.code yX7_from prog_1_method_15_code 4 (Option.some Jvm.ClassFile.FieldType.int) :: gtbl) rmX7_from (va_Pc [.ref (gz g + a0), .int a1, .int a2] (AtP g N ln S)) (QI g N ln post) 0 0 (gF g) := by
  refine m_of (by decide) (Nat.le_of_ble_eq_true rfl) ?_
  intro p e s m below meth c ls F hr I hl
  have hl : lv_has ls 4 [(0, .ref (gz g + a0)), (1, .int a1), (2, .int a2)] := hl
  unfold wpX7_from at h
  have hj_18 : ∀ (S : HC) (H : Heap) (locs : List Loc) (ls : Array Slot), BX7_from_18 ln post S  → Inv g N ln S s H locs → lv_has ls 4 [] → W p l e rmX7_from s m ([.ref (gz g + a0), .int a1, .int a2] : List Value).toArray below meth c H locs 0 0 (MQ below (QI g N ln post) ([.ref (gz g + a0), .int a1, .int a2] : List Value).toArray s 0 0 (gF g)) (F0 m 18 ls []) := by
    intro S H locs ls h I hl
    unfold BX7_from_18 at h
    refine lv_ldc F.1 F.2.1 F.2.2.2.1 (F.2.2.2.2 _ tw_334) dX7_from_18 ?_
    exact r_ireturn F I ⟨hr.1, hr.2.1, trivial⟩ h dX7_from_20
  refine lv_aload_n F.1 F.2.1 dX7_from_0 rfl (lv_at hl 0 rfl) ?_
  refine r_getN F I hr_a0 hk_a0 fX7_10 (f := 0) rfl (by decide) dX7_from_1 h (fun b1 hr_b1 hk_b1 h => ?_)
  refine lv_iload_n F.1 F.2.1 dX7_from_4 rfl (lv_at hl 1 rfl) ?_
  refine g_I I (run_V (As := [.int a1]) (rest := []) F I hr_b1 hk_b1 (by decide) kX7_86 (ctX0_has hr_b1 hk_b1 h) ⟨rfl, rfl⟩ ⟨Nat.le_of_ble_eq_true rfl, Nat.le_of_ble_eq_true rfl⟩ rfl hl.1 rfl (Nat.le_of_ble_eq_true rfl) ⟨Nat.le_of_ble_eq_true rfl, Nat.le_of_ble_eq_true rfl⟩ dX7_from_5) (fun z2 S H locs I h => ?_)
  refine r_if_eq (tgt := 18) F dX7_from_8 (by decide) h (fun h => ?_) (fun h => ?_)
  · exact hj_18 S _ _ _   h I (lv_sub hl [] rfl)
  · refine lv_iload_n F.1 F.2.1 dX7_from_11 rfl (lv_at hl 2 rfl) ?_
    refine g_I I (run_S (As := [.int a2]) (rest := []) F I kX7_74 (ctX7_isCharge h) ⟨rfl, rfl⟩ ⟨Nat.le_of_ble_eq_true rfl, Nat.le_of_ble_eq_true rfl⟩ rfl hl.1 rfl (Nat.le_of_ble_eq_true rfl) ⟨Nat.le_of_ble_eq_true rfl, Nat.le_of_ble_eq_true rfl⟩ dX7_from_12) (fun z3 S H locs I h => ?_)
    refine r_if_ne (tgt := 21) F dX7_from_15 (by decide) h (fun h => ?_) (fun h => ?_)
    · refine lv_aload_n F.1 F.2.1 dX7_from_21 rfl (lv_at hl 0 rfl) ?_
      refine r_getN F I hr_a0 hk_a0 fX7_10 (f := 0) rfl (by decide) dX7_from_22 h (fun b4 hr_b4 hk_b4 h => ?_)
      refine lv_iload_n F.1 F.2.1 dX7_from_25 rfl (lv_at hl 1 rfl) ?_
      refine lv_iload_n F.1 F.2.1 dX7_from_26 rfl (lv_at hl 2 rfl) ?_
      refine g_I I (run_V (As := [.int a1, .int a2]) (rest := []) F I hr_b4 hk_b4 (by decide) kX7_170 (ctX0_oldestFounder hr_b4 hk_b4 h) ⟨rfl, rfl⟩ ⟨Nat.le_of_ble_eq_true rfl, Nat.le_of_ble_eq_true rfl⟩ rfl hl.1 rfl (Nat.le_of_ble_eq_true rfl) ⟨Nat.le_of_ble_eq_true rfl, Nat.le_of_ble_eq_true rfl⟩ dX7_from_27) (fun z5 S H locs I h => ?_)
      refine lv_istore_n (lv' := [(3, .int z5), (0, .ref (gz g + a0)), (1, .int a1), (2, .int a2)]) F.1 F.2.1 dX7_from_30 rfl hl (by decide) rfl (fun ls hl => ?_)
      refine lv_iload_n F.1 F.2.1 dX7_from_31 rfl (lv_at hl 0 rfl) ?_
      refine lv_iconst (v := -1) F.1 F.2.1 dX7_from_32 (by decide) ?_
      refine r_icmp_ne (tgt := 41) F dX7_from_33 (by decide) h (fun h => ?_) (fun h => ?_)
      · refine lv_iload_n F.1 F.2.1 dX7_from_41 rfl (lv_at hl 0 rfl) ?_
        exact r_ireturn F I ⟨hr.1, hr.2.1, trivial⟩ h dX7_from_42
      · refine lv_ldc F.1 F.2.1 F.2.2.2.1 (F.2.2.2.2 _ tw_534) dX7_from_36 ?_
        refine lv_goto (tgt := 42) F.1 F.2.1 dX7_from_38 (by decide) ?_
        exact r_ireturn F I ⟨hr.1, hr.2.1, trivial⟩ h dX7_from_42
    · exact hj_18 S _ _ _   h I (lv_sub hl [] rfl)
theorem bdX7_match_0 : ∀ q ∈ ([(0, .aload_n 0, 1), (1, .getfield 10, 3), (4, .iload_n 1, 1), (5, .invokevirtual 86, 3), (8, .ifCond .eq 19, 3), (11, .iload_n 2, 1), (12, .invokestatic 74, 3), (15, .ifCond .eq 12, 3), (18, .iload_n 3, 1), (19, .ifCond .lt 8, 3), (22, .iload_n 3, 1), (23, .iconst 1, 1), (24, .if_icmp .le 6, 3), (27, .ldc 73, 2), (29, .ireturn, 1), (30, .aload_n 0, 1), (31, .getfield 29, 3), (34, .aload_n 0, 1), (35, .getfield 10, 3), (38, .invokevirtual 114, 3), (41, .aload_n 0, 1), (42, .getfield 29, 3), (45, .iload_n 2, 1), (46, .invokevirtual 118, 3), (49, .ldc 173, 2), (51, .istore 4, 2), (53, .ldc 173, 2), (55, .istore 5, 2), (57, .iconst 0, 1), (58, .istore 6, 2), (60, .iload 6, 2), (62, .aload_n 0, 1), (63, .getfield 10, 3), (66, .getfield 174, 3), (69, .if_icmp .ge 92, 3), (72, .aload_n 0, 1), (73, .getfield 10, 3), (76, .getfield 98, 3), (79, .iload 6, 2), (81, .iaload, 1)] : List (Nat × Jvm.ClassFile.Instr × Nat)), decode cX7_match q.1 = .ok q.2 := chk_ok _ 0 _ rfl (by decide +kernel)
theorem dX7_match_0 : decode cX7_match 0 = .ok (.aload_n 0, 1) := bdX7_match_0 (0, .aload_n 0, 1) (List.mem_of_getElem? (i := 0) rfl)
theorem dX7_match_1 : decode cX7_match 1 = .ok (.getfield 10, 3) := bdX7_match_0 (1, .getfield 10, 3) (List.mem_of_getElem? (i := 1) rfl)
theorem dX7_match_4 : decode cX7_match 4 = .ok (.iload_n 1, 1) := bdX7_match_0 (4, .iload_n 1, 1) (List.mem_of_getElem? (i := 2) rfl)
theorem dX7_match_5 : decode cX7_match 5 = .ok (.invokevirtual 86, 3) := bdX7_match_0 (5, .invokevirtual 86, 3) (List.mem_of_getElem? (i := 3) rfl)
theorem dX7_match_8 : decode cX7_match 8 = .ok (.ifCond .eq 19, 3) := bdX7_match_0 (8, .ifCond .eq 19, 3) (List.mem_of_getElem? (i := 4) rfl)
theorem dX7_match_11 : decode cX7_match 11 = .ok (.iload_n 2, 1) := bdX7_match_0 (11, .iload_n 2, 1) (List.mem_of_getElem? (i := 5) rfl)
theorem dX7_match_12 : decode cX7_match 12 = .ok (.invokestatic 74, 3) := bdX7_match_0 (12, .invokestatic 74, 3) (List.mem_of_getElem? (i := 6) rfl)
theorem dX7_match_15 : decode cX7_match 15 = .ok (.ifCond .eq 12, 3) := bdX7_match_0 (15, .ifCond .eq 12, 3) (List.mem_of_getElem? (i := 7) rfl)
theorem dX7_match_18 : decode cX7_match 18 = .ok (.iload_n 3, 1) := bdX7_match_0 (18, .iload_n 3, 1) (List.mem_of_getElem? (i := 8) rfl)
theorem dX7_match_19 : decode cX7_match 19 = .ok (.ifCond .lt 8, 3) := bdX7_match_0 (19, .ifCond .lt 8, 3) (List.mem_of_getElem? (i := 9) rfl)
theorem dX7_match_22 : decode cX7_match 22 = .ok (.iload_n 3, 1) := bdX7_match_0 (22, .iload_n 3, 1) (List.mem_of_getElem? (i := 10) rfl)
theorem dX7_match_23 : decode cX7_match 23 = .ok (.iconst 1, 1) := bdX7_match_0 (23, .iconst 1, 1) (List.mem_of_getElem? (i := 11) rfl)
theorem dX7_match_24 : decode cX7_match 24 = .ok (.if_icmp .le 6, 3) := bdX7_match_0 (24, .if_icmp .le 6, 3) (List.mem_of_getElem? (i := 12) rfl)
theorem dX7_match_27 : decode cX7_match 27 = .ok (.ldc 73, 2) := bdX7_match_0 (27, .ldc 73, 2) (List.mem_of_getElem? (i := 13) rfl)
theorem dX7_match_29 : decode cX7_match 29 = .ok (.ireturn, 1) := bdX7_match_0 (29, .ireturn, 1) (List.mem_of_getElem? (i := 14) rfl)
theorem dX7_match_30 : decode cX7_match 30 = .ok (.aload_n 0, 1) := bdX7_match_0 (30, .aload_n 0, 1) (List.mem_of_getElem? (i := 15) rfl)
theorem dX7_match_31 : decode cX7_match 31 = .ok (.getfield 29, 3) := bdX7_match_0 (31, .getfield 29, 3) (List.mem_of_getElem? (i := 16) rfl)
theorem dX7_match_34 : decode cX7_match 34 = .ok (.aload_n 0, 1) := bdX7_match_0 (34, .aload_n 0, 1) (List.mem_of_getElem? (i := 17) rfl)
theorem dX7_match_35 : decode cX7_match 35 = .ok (.getfield 10, 3) := bdX7_match_0 (35, .getfield 10, 3) (List.mem_of_getElem? (i := 18) rfl)
theorem dX7_match_38 : decode cX7_match 38 = .ok (.invokevirtual 114, 3) := bdX7_match_0 (38, .invokevirtual 114, 3) (List.mem_of_getElem? (i := 19) rfl)
theorem dX7_match_41 : decode cX7_match 41 = .ok (.aload_n 0, 1) := bdX7_match_0 (41, .aload_n 0, 1) (List.mem_of_getElem? (i := 20) rfl)
theorem dX7_match_42 : decode cX7_match 42 = .ok (.getfield 29, 3) := bdX7_match_0 (42, .getfield 29, 3) (List.mem_of_getElem? (i := 21) rfl)
theorem dX7_match_45 : decode cX7_match 45 = .ok (.iload_n 2, 1) := bdX7_match_0 (45, .iload_n 2, 1) (List.mem_of_getElem? (i := 22) rfl)
theorem dX7_match_46 : decode cX7_match 46 = .ok (.invokevirtual 118, 3) := bdX7_match_0 (46, .invokevirtual 118, 3) (List.mem_of_getElem? (i := 23) rfl)
theorem dX7_match_49 : decode cX7_match 49 = .ok (.ldc 173, 2) := bdX7_match_0 (49, .ldc 173, 2) (List.mem_of_getElem? (i := 24) rfl)
theorem dX7_match_51 : decode cX7_match 51 = .ok (.istore 4, 2) := bdX7_match_0 (51, .istore 4, 2) (List.mem_of_getElem? (i := 25) rfl)
theorem dX7_match_53 : decode cX7_match 53 = .ok (.ldc 173, 2) := bdX7_match_0 (53, .ldc 173, 2) (List.mem_of_getElem? (i := 26) rfl)
theorem dX7_match_55 : decode cX7_match 55 = .ok (.istore 5, 2) := bdX7_match_0 (55, .istore 5, 2) (List.mem_of_getElem? (i := 27) rfl)
theorem dX7_match_57 : decode cX7_match 57 = .ok (.iconst 0, 1) := bdX7_match_0 (57, .iconst 0, 1) (List.mem_of_getElem? (i := 28) rfl)
theorem dX7_match_58 : decode cX7_match 58 = .ok (.istore 6, 2) := bdX7_match_0 (58, .istore 6, 2) (List.mem_of_getElem? (i := 29) rfl)
theorem dX7_match_60 : decode cX7_match 60 = .ok (.iload 6, 2) := bdX7_match_0 (60, .iload 6, 2) (List.mem_of_getElem? (i := 30) rfl)
theorem dX7_match_62 : decode cX7_match 62 = .ok (.aload_n 0, 1) := bdX7_match_0 (62, .aload_n 0, 1) (List.mem_of_getElem? (i := 31) rfl)
theorem dX7_match_63 : decode cX7_match 63 = .ok (.getfield 10, 3) := bdX7_match_0 (63, .getfield 10, 3) (List.mem_of_getElem? (i := 32) rfl)
theorem dX7_match_66 : decode cX7_match 66 = .ok (.getfield 174, 3) := bdX7_match_0 (66, .getfield 174, 3) (List.mem_of_getElem? (i := 33) rfl)
theorem dX7_match_69 : decode cX7_match 69 = .ok (.if_icmp .ge 92, 3) := bdX7_match_0 (69, .if_icmp .ge 92, 3) (List.mem_of_getElem? (i := 34) rfl)
theorem dX7_match_72 : decode cX7_match 72 = .ok (.aload_n 0, 1) := bdX7_match_0 (72, .aload_n 0, 1) (List.mem_of_getElem? (i := 35) rfl)
theorem dX7_match_73 : decode cX7_match 73 = .ok (.getfield 10, 3) := bdX7_match_0 (73, .getfield 10, 3) (List.mem_of_getElem? (i := 36) rfl)
theorem dX7_match_76 : decode cX7_match 76 = .ok (.getfield 98, 3) := bdX7_match_0 (76, .getfield 98, 3) (List.mem_of_getElem? (i := 37) rfl)
theorem dX7_match_79 : decode cX7_match 79 = .ok (.iload 6, 2) := bdX7_match_0 (79, .iload 6, 2) (List.mem_of_getElem? (i := 38) rfl)
theorem dX7_match_81 : decode cX7_match 81 = .ok (.iaload, 1) := bdX7_match_0 (81, .iaload, 1) (List.mem_of_getElem? (i := 39) rfl)
theorem bdX7_match_82 : ∀ q ∈ ([(82, .aload_n 0, 1), (83, .getfield 10, 3), (86, .getfield 98, 3), (89, .iload_n 1, 1), (90, .iaload, 1), (91, .if_icmp .eq 64, 3), (94, .aload_n 0, 1), (95, .getfield 10, 3), (98, .getfield 98, 3), (101, .iload_n 1, 1), (102, .iaload, 1), (103, .ifCond .ne 17, 3), (106, .aload_n 0, 1), (107, .getfield 29, 3), (110, .iload_n 1, 1), (111, .iload 6, 2), (113, .iload_n 2, 1), (114, .invokevirtual 177, 3), (117, .goto 14, 3), (120, .aload_n 0, 1), (121, .getfield 29, 3), (124, .iload 6, 2), (126, .iload_n 1, 1), (127, .iload_n 2, 1), (128, .invokevirtual 177, 3), (131, .istore 7, 2), (133, .iload 4, 2), (135, .ldc 173, 2), (137, .if_icmp .eq 10, 3), (140, .iload 7, 2), (142, .iload 5, 2), (144, .if_icmp .le 11, 3), (147, .iload 6, 2), (149, .istore 4, 2), (151, .iload 7, 2), (153, .istore 5, 2), (155, .iinc 6 1, 3), (158, .goto (-98), 3), (161, .iload_n 3, 1), (162, .ifCond .ne 8, 3)] : List (Nat × Jvm.ClassFile.Instr × Nat)), decode cX7_match q.1 = .ok q.2 := chk_ok _ 82 _ rfl (by decide +kernel)
theorem dX7_match_82 : decode cX7_match 82 = .ok (.aload_n 0, 1) := bdX7_match_82 (82, .aload_n 0, 1) (List.mem_of_getElem? (i := 0) rfl)
theorem dX7_match_83 : decode cX7_match 83 = .ok (.getfield 10, 3) := bdX7_match_82 (83, .getfield 10, 3) (List.mem_of_getElem? (i := 1) rfl)
theorem dX7_match_86 : decode cX7_match 86 = .ok (.getfield 98, 3) := bdX7_match_82 (86, .getfield 98, 3) (List.mem_of_getElem? (i := 2) rfl)
theorem dX7_match_89 : decode cX7_match 89 = .ok (.iload_n 1, 1) := bdX7_match_82 (89, .iload_n 1, 1) (List.mem_of_getElem? (i := 3) rfl)
theorem dX7_match_90 : decode cX7_match 90 = .ok (.iaload, 1) := bdX7_match_82 (90, .iaload, 1) (List.mem_of_getElem? (i := 4) rfl)
theorem dX7_match_91 : decode cX7_match 91 = .ok (.if_icmp .eq 64, 3) := bdX7_match_82 (91, .if_icmp .eq 64, 3) (List.mem_of_getElem? (i := 5) rfl)
theorem dX7_match_94 : decode cX7_match 94 = .ok (.aload_n 0, 1) := bdX7_match_82 (94, .aload_n 0, 1) (List.mem_of_getElem? (i := 6) rfl)
theorem dX7_match_95 : decode cX7_match 95 = .ok (.getfield 10, 3) := bdX7_match_82 (95, .getfield 10, 3) (List.mem_of_getElem? (i := 7) rfl)
theorem dX7_match_98 : decode cX7_match 98 = .ok (.getfield 98, 3) := bdX7_match_82 (98, .getfield 98, 3) (List.mem_of_getElem? (i := 8) rfl)
theorem dX7_match_101 : decode cX7_match 101 = .ok (.iload_n 1, 1) := bdX7_match_82 (101, .iload_n 1, 1) (List.mem_of_getElem? (i := 9) rfl)
theorem dX7_match_102 : decode cX7_match 102 = .ok (.iaload, 1) := bdX7_match_82 (102, .iaload, 1) (List.mem_of_getElem? (i := 10) rfl)
theorem dX7_match_103 : decode cX7_match 103 = .ok (.ifCond .ne 17, 3) := bdX7_match_82 (103, .ifCond .ne 17, 3) (List.mem_of_getElem? (i := 11) rfl)
theorem dX7_match_106 : decode cX7_match 106 = .ok (.aload_n 0, 1) := bdX7_match_82 (106, .aload_n 0, 1) (List.mem_of_getElem? (i := 12) rfl)
theorem dX7_match_107 : decode cX7_match 107 = .ok (.getfield 29, 3) := bdX7_match_82 (107, .getfield 29, 3) (List.mem_of_getElem? (i := 13) rfl)
theorem dX7_match_110 : decode cX7_match 110 = .ok (.iload_n 1, 1) := bdX7_match_82 (110, .iload_n 1, 1) (List.mem_of_getElem? (i := 14) rfl)
theorem dX7_match_111 : decode cX7_match 111 = .ok (.iload 6, 2) := bdX7_match_82 (111, .iload 6, 2) (List.mem_of_getElem? (i := 15) rfl)
theorem dX7_match_113 : decode cX7_match 113 = .ok (.iload_n 2, 1) := bdX7_match_82 (113, .iload_n 2, 1) (List.mem_of_getElem? (i := 16) rfl)
theorem dX7_match_114 : decode cX7_match 114 = .ok (.invokevirtual 177, 3) := bdX7_match_82 (114, .invokevirtual 177, 3) (List.mem_of_getElem? (i := 17) rfl)
theorem dX7_match_117 : decode cX7_match 117 = .ok (.goto 14, 3) := bdX7_match_82 (117, .goto 14, 3) (List.mem_of_getElem? (i := 18) rfl)
theorem dX7_match_120 : decode cX7_match 120 = .ok (.aload_n 0, 1) := bdX7_match_82 (120, .aload_n 0, 1) (List.mem_of_getElem? (i := 19) rfl)
theorem dX7_match_121 : decode cX7_match 121 = .ok (.getfield 29, 3) := bdX7_match_82 (121, .getfield 29, 3) (List.mem_of_getElem? (i := 20) rfl)
theorem dX7_match_124 : decode cX7_match 124 = .ok (.iload 6, 2) := bdX7_match_82 (124, .iload 6, 2) (List.mem_of_getElem? (i := 21) rfl)
theorem dX7_match_126 : decode cX7_match 126 = .ok (.iload_n 1, 1) := bdX7_match_82 (126, .iload_n 1, 1) (List.mem_of_getElem? (i := 22) rfl)
theorem dX7_match_127 : decode cX7_match 127 = .ok (.iload_n 2, 1) := bdX7_match_82 (127, .iload_n 2, 1) (List.mem_of_getElem? (i := 23) rfl)
theorem dX7_match_128 : decode cX7_match 128 = .ok (.invokevirtual 177, 3) := bdX7_match_82 (128, .invokevirtual 177, 3) (List.mem_of_getElem? (i := 24) rfl)
theorem dX7_match_131 : decode cX7_match 131 = .ok (.istore 7, 2) := bdX7_match_82 (131, .istore 7, 2) (List.mem_of_getElem? (i := 25) rfl)
theorem dX7_match_133 : decode cX7_match 133 = .ok (.iload 4, 2) := bdX7_match_82 (133, .iload 4, 2) (List.mem_of_getElem? (i := 26) rfl)
theorem dX7_match_135 : decode cX7_match 135 = .ok (.ldc 173, 2) := bdX7_match_82 (135, .ldc 173, 2) (List.mem_of_getElem? (i := 27) rfl)
theorem dX7_match_137 : decode cX7_match 137 = .ok (.if_icmp .eq 10, 3) := bdX7_match_82 (137, .if_icmp .eq 10, 3) (List.mem_of_getElem? (i := 28) rfl)
theorem dX7_match_140 : decode cX7_match 140 = .ok (.iload 7, 2) := bdX7_match_82 (140, .iload 7, 2) (List.mem_of_getElem? (i := 29) rfl)
theorem dX7_match_142 : decode cX7_match 142 = .ok (.iload 5, 2) := bdX7_match_82 (142, .iload 5, 2) (List.mem_of_getElem? (i := 30) rfl)
theorem dX7_match_144 : decode cX7_match 144 = .ok (.if_icmp .le 11, 3) := bdX7_match_82 (144, .if_icmp .le 11, 3) (List.mem_of_getElem? (i := 31) rfl)
theorem dX7_match_147 : decode cX7_match 147 = .ok (.iload 6, 2) := bdX7_match_82 (147, .iload 6, 2) (List.mem_of_getElem? (i := 32) rfl)
theorem dX7_match_149 : decode cX7_match 149 = .ok (.istore 4, 2) := bdX7_match_82 (149, .istore 4, 2) (List.mem_of_getElem? (i := 33) rfl)
theorem dX7_match_151 : decode cX7_match 151 = .ok (.iload 7, 2) := bdX7_match_82 (151, .iload 7, 2) (List.mem_of_getElem? (i := 34) rfl)
theorem dX7_match_153 : decode cX7_match 153 = .ok (.istore 5, 2) := bdX7_match_82 (153, .istore 5, 2) (List.mem_of_getElem? (i := 35) rfl)
theorem dX7_match_155 : decode cX7_match 155 = .ok (.iinc 6 1, 3) := bdX7_match_82 (155, .iinc 6 1, 3) (List.mem_of_getElem? (i := 36) rfl)
theorem dX7_match_158 : decode cX7_match 158 = .ok (.goto (-98), 3) := bdX7_match_82 (158, .goto (-98), 3) (List.mem_of_getElem? (i := 37) rfl)
theorem dX7_match_161 : decode cX7_match 161 = .ok (.iload_n 3, 1) := bdX7_match_82 (161, .iload_n 3, 1) (List.mem_of_getElem? (i := 38) rfl)
theorem dX7_match_162 : decode cX7_match 162 = .ok (.ifCond .ne 8, 3) := bdX7_match_82 (162, .ifCond .ne 8, 3) (List.mem_of_getElem? (i := 39) rfl)
theorem bdX7_match_165 : ∀ q ∈ ([(165, .iload 4, 2), (167, .goto 5, 3), (170, .iload 5, 2), (172, .ireturn, 1)] : List (Nat × Jvm.ClassFile.Instr × Nat)), decode cX7_match q.1 = .ok q.2 := chk_ok _ 165 _ rfl (by decide +kernel)
theorem dX7_match_165 : decode cX7_match 165 = .ok (.iload 4, 2) := bdX7_match_165 (165, .iload 4, 2) (List.mem_of_getElem? (i := 0) rfl)
theorem dX7_match_167 : decode cX7_match 167 = .ok (.goto 5, 3) := bdX7_match_165 (167, .goto 5, 3) (List.mem_of_getElem? (i := 1) rfl)
theorem dX7_match_170 : decode cX7_match 170 = .ok (.iload 5, 2) := bdX7_match_165 (170, .iload 5, 2) (List.mem_of_getElem? (i := 2) rfl)
theorem dX7_match_172 : decode cX7_match 172 = .ok (.ireturn, 1) := bdX7_match_165 (172, .ireturn, 1) (List.mem_of_getElem? (i := 3) rfl)
theorem fX7_174 : fldOK RX7 174 0 6 .int false := ⟨_, _, _, tyX0, ⟨rfl, iX0, by decide, rfl, by decide⟩, tw_112, ⟨tyX0_ok, nmX0⟩, by decide +kernel, rfl, rfl⟩
theorem kX7_177 : mthV RX7 177 4 yX4_joined prog_6_method_7_code 8 (Option.some Jvm.ClassFile.FieldType.int) 3 := ⟨⟨⟨tw_539, tw_62, tw_396⟩, rfl, by decide +kernel⟩, tw_394, tw_395, rfl⟩
def BX7_match_155 (ln : Nat → Nat) (post : Int32 → HC → Prop) (K60 : HC → Nat → Int32 → Int32 → Int32 → Int32 → Int32 → Int32 → Prop) (S : HC) (x0 : Nat) (x1 : Int32) (x2 : Int32) (x3 : Int32) (x4 : Int32) (x5 : Int32) (x6 : Int32) : Prop := lt_ (x6 + (1 : Int32)) fun z1 => K60 S x0 x1 x2 x3 x4 x5 z1
def BX7_match_147 (ln : Nat → Nat) (post : Int32 → HC → Prop) (K60 : HC → Nat → Int32 → Int32 → Int32 → Int32 → Int32 → Int32 → Prop) (S : HC) (x0 : Nat) (x1 : Int32) (x2 : Int32) (x3 : Int32) (x6 : Int32) (x7 : Int32) : Prop := BX7_match_155 ln post K60 S x0 x1 x2 x3 x6 x7 x6
def BX7_match_131 (ln : Nat → Nat) (post : Int32 → HC → Prop) (K60 : HC → Nat → Int32 → Int32 → Int32 → Int32 → Int32 → Int32 → Prop) (S : HC) (x0 : Nat) (x1 : Int32) (x2 : Int32) (x3 : Int32) (x4 : Int32) (x5 : Int32) (x6 : Int32) (t0 : Int32) : Prop := if x4 = (-1000000005 : Int32) then (BX7_match_147 ln post K60 S x0 x1 x2 x3 x6 t0) else (if t0 ≤ x5 then (BX7_match_155 ln post K60 S x0 x1 x2 x3 x4 x5 x6) else (BX7_match_147 ln post K60 S x0 x1 x2 x3 x6 t0))
def LX7_match_60 (ln : Nat → Nat) (post : Int32 → HC → Prop) : Nat → HC → Nat → Int32 → Int32 → Int32 → Int32 → Int32 → Int32 → Prop
  | 0 => fun _ _ _ _ _ _ _ _ => False
  | n60 + 1 => fun S x0 x1 x2 x3 x4 x5 x6 => dn_ (hR S x0 0) fun b2 => lt_ (hI S b2 6) fun z3 => if z3 ≤ x6 then (if x3 = 0 then (post x4 S) else (post x5 S)) else (dn_ (hR S x0 0) fun b4 => dn_ (hR S b4 3) fun b5 => al_ (ln b5) x6 (hI S b5) fun z6 => dn_ (hR S x0 0) fun b7 => dn_ (hR S b7 3) fun b8 => al_ (ln b8) x1 (hI S b8) fun z9 => if z6 = z9 then (BX7_match_155 ln post (LX7_match_60 ln post n60) S x0 x1 x2 x3 x4 x5 x6) else (dn_ (hR S x0 0) fun b10 => dn_ (hR S b10 3) fun b11 => al_ (ln b11) x1 (hI S b11) fun z12 => if z12 = 0 then (dn_ (hR S x0 4) fun b15 => wpX4_joined ln S b15 x1 x6 x2 fun z16 S => BX7_match_131 ln post (LX7_match_60 ln post n60) S x0 x1 x2 x3 x4 x5 x6 z16) else (dn_ (hR S x0 4) fun b13 => wpX4_joined ln S b13 x6 x1 x2 fun z14 S => BX7_match_131 ln post (LX7_match_60 ln post n60) S x0 x1 x2 x3 x4 x5 x6 z14)))
def BX7_match_27 (ln : Nat → Nat) (post : Int32 → HC → Prop) (S : HC)  : Prop := post (-1000000001 : Int32) S
def wpX7_match (ln : Nat → Nat) (S : HC) (a0 : Nat) (a1 : Int32) (a2 : Int32) (a3 : Int32) (post : Int32 → HC → Prop) : Prop := dn_ (hR S a0 0) fun b17 => wpX0_has ln S b17 a1 fun z18 S => if z18 = 0 then (BX7_match_27 ln post S) else (wpX7_isCharge ln S a2 fun z19 S => if z19 = 0 then (BX7_match_27 ln post S) else (if a3 < 0 then (BX7_match_27 ln post S) else (if a3 ≤ (1 : Int32) then (dn_ (hR S a0 4) fun b20 => dn_ (hR S a0 0) fun b21 => wpX4_lookAt ln S b20 b21 fun S => dn_ (hR S a0 4) fun b22 => wpX4_workOut ln S b22 a2 fun S => ∃ n60, LX7_match_60 ln post n60 S a0 a1 a2 a3 (-1000000005 : Int32) (-1000000005 : Int32) (0 : Int32)) else (BX7_match_27 ln post S))))
abbrev rmX7_match : Room := { frames := 5, cells := 0, slots := 0, locals := 121 }
set_option maxHeartbeats 4000000 in
set_option maxRecDepth 100000 in
theorem ctX7_match {l : Launch} {g : GX} {N : Nat} {ln : Nat → Nat} {S : HC} {a0 : Nat} {a1 : Int32} {a2 : Int32} {a3 : Int32} {post : Int32 → HC → Prop} (hr_a0 : a0 < N) (hk_a0 : kd a0 = 7) (h : wpX7_match ln S a0 a1 a2 a3 post) : Met l yX7_match (Cond.code yX7_match prog_1_method_16_code 8 (Option.some Jvm.ClassFile.FieldType.int) :: gtbl) rmX7_match (va_Pc [.ref (gz g + a0), .int a1, .int a2, .int a3] (AtP g N ln S)) (QI g N ln post) 0 0 (gF g) := by
  refine m_of (by decide) (Nat.le_of_ble_eq_true rfl) ?_
  intro p e s m below meth c ls F hr I hl
  have hl : lv_has ls 8 [(0, .ref (gz g + a0)), (1, .int a1), (2, .int a2), (3, .int a3)] := hl
  unfold wpX7_match at h
  have hl_60 : ∀ n60 : Nat, ∀ (S : HC) (H : Heap) (locs : List Loc) (ls : Array Slot) (x0 : Nat) (x1 : Int32) (x2 : Int32) (x3 : Int32) (x4 : Int32) (x5 : Int32) (x6 : Int32), x0 < N → kd x0 = 7 → LX7_match_60 ln post n60 S x0 x1 x2 x3 x4 x5 x6 → Inv g N ln S s H locs → lv_has ls 8 [(0, .ref (gz g + x0)), (1, .int x1), (2, .int x2), (3, .int x3), (4, .int x4), (5, .int x5), (6, .int x6)] → W p l e rmX7_match s m ([.ref (gz g + a0), .int a1, .int a2, .int a3] : List Value).toArray below meth c H locs 0 0 (MQ below (QI g N ln post) ([.ref (gz g + a0), .int a1, .int a2, .int a3] : List Value).toArray s 0 0 (gF g)) (F0 m 60 ls []) := by
    intro n60
    induction n60 with
    | zero =>
      intro S H locs ls x0 x1 x2 x3 x4 x5 x6 hr_x0 hk_x0 h I hl
      exact h.elim
    | succ n60 ih =>
      have hk60 := ih
      have hj_155 : ∀ (S : HC) (H : Heap) (locs : List Loc) (ls : Array Slot) (x0 : Nat) (x1 : Int32) (x2 : Int32) (x3 : Int32) (x4 : Int32) (x5 : Int32) (x6 : Int32), x0 < N → kd x0 = 7 → BX7_match_155 ln post (LX7_match_60 ln post n60) S x0 x1 x2 x3 x4 x5 x6 → Inv g N ln S s H locs → lv_has ls 8 [(0, .ref (gz g + x0)), (1, .int x1), (2, .int x2), (3, .int x3), (4, .int x4), (5, .int x5), (6, .int x6)] → W p l e rmX7_match s m ([.ref (gz g + a0), .int a1, .int a2, .int a3] : List Value).toArray below meth c H locs 0 0 (MQ below (QI g N ln post) ([.ref (gz g + a0), .int a1, .int a2, .int a3] : List Value).toArray s 0 0 (gF g)) (F0 m 155 ls []) := by
        intro S H locs ls x0 x1 x2 x3 x4 x5 x6 hr_x0 hk_x0 h I hl
        unfold BX7_match_155 at h
        obtain ⟨z1, e_z1, h⟩ := lt_x h
        refine lv_iinc (v := z1) (lv' := [(6, .int z1), (0, .ref (gz g + x0)), (1, .int x1), (2, .int x2), (3, .int x3), (4, .int x4), (5, .int x5)]) F.1 F.2.1 dX7_match_155 hl (k := 6) rfl (by rw [e_z1]; rfl) (by decide) rfl (fun ls hl => ?_)
        refine lv_goto (tgt := 60) F.1 F.2.1 dX7_match_158 (by decide) ?_
        exact hk60 S _ _ _ x0 x1 x2 x3 x4 x5 z1 hr_x0 hk_x0 h I (lv_sub hl [1, 2, 3, 4, 5, 6, 0] rfl)
      have hj_147 : ∀ (S : HC) (H : Heap) (locs : List Loc) (ls : Array Slot) (x0 : Nat) (x1 : Int32) (x2 : Int32) (x3 : Int32) (x6 : Int32) (x7 : Int32), x0 < N → kd x0 = 7 → BX7_match_147 ln post (LX7_match_60 ln post n60) S x0 x1 x2 x3 x6 x7 → Inv g N ln S s H locs → lv_has ls 8 [(0, .ref (gz g + x0)), (1, .int x1), (2, .int x2), (3, .int x3), (6, .int x6), (7, .int x7)] → W p l e rmX7_match s m ([.ref (gz g + a0), .int a1, .int a2, .int a3] : List Value).toArray below meth c H locs 0 0 (MQ below (QI g N ln post) ([.ref (gz g + a0), .int a1, .int a2, .int a3] : List Value).toArray s 0 0 (gF g)) (F0 m 147 ls []) := by
        intro S H locs ls x0 x1 x2 x3 x6 x7 hr_x0 hk_x0 h I hl
        unfold BX7_match_147 at h
        refine lv_iload F.1 F.2.1 dX7_match_147 (lv_at hl 4 rfl) ?_
        refine lv_istore (lv' := [(4, .int x6), (0, .ref (gz g + x0)), (1, .int x1), (2, .int x2), (3, .int x3), (6, .int x6), (7, .int x7)]) F.1 F.2.1 dX7_match_149 hl (by decide) rfl (fun ls hl => ?_)
        refine lv_iload F.1 F.2.1 dX7_match_151 (lv_at hl 6 rfl) ?_
        refine lv_istore (lv' := [(5, .int x7), (4, .int x6), (0, .ref (gz g + x0)), (1, .int x1), (2, .int x2), (3, .int x3), (6, .int x6), (7, .int x7)]) F.1 F.2.1 dX7_match_153 hl (by decide) rfl (fun ls hl => ?_)
        exact hj_155 S _ _ _ x0 x1 x2 x3 x6 x7 x6 hr_x0 hk_x0 h I (lv_sub hl [2, 3, 4, 5, 1, 0, 6] rfl)
      have hj_131 : ∀ (S : HC) (H : Heap) (locs : List Loc) (ls : Array Slot) (x0 : Nat) (x1 : Int32) (x2 : Int32) (x3 : Int32) (x4 : Int32) (x5 : Int32) (x6 : Int32) (t0 : Int32), x0 < N → kd x0 = 7 → BX7_match_131 ln post (LX7_match_60 ln post n60) S x0 x1 x2 x3 x4 x5 x6 t0 → Inv g N ln S s H locs → lv_has ls 8 [(0, .ref (gz g + x0)), (1, .int x1), (2, .int x2), (3, .int x3), (4, .int x4), (5, .int x5), (6, .int x6)] → W p l e rmX7_match s m ([.ref (gz g + a0), .int a1, .int a2, .int a3] : List Value).toArray below meth c H locs 0 0 (MQ below (QI g N ln post) ([.ref (gz g + a0), .int a1, .int a2, .int a3] : List Value).toArray s 0 0 (gF g)) (F0 m 131 ls [.int t0]) := by
        intro S H locs ls x0 x1 x2 x3 x4 x5 x6 t0 hr_x0 hk_x0 h I hl
        unfold BX7_match_131 at h
        refine lv_istore (lv' := [(7, .int t0), (0, .ref (gz g + x0)), (1, .int x1), (2, .int x2), (3, .int x3), (4, .int x4), (5, .int x5), (6, .int x6)]) F.1 F.2.1 dX7_match_131 hl (by decide) rfl (fun ls hl => ?_)
        refine lv_iload F.1 F.2.1 dX7_match_133 (lv_at hl 5 rfl) ?_
        refine lv_ldc F.1 F.2.1 F.2.2.2.1 (F.2.2.2.2 _ tw_534) dX7_match_135 ?_
        refine r_icmp_eq (tgt := 147) F dX7_match_137 (by decide) h (fun h => ?_) (fun h => ?_)
        · exact hj_147 S _ _ _ x0 x1 x2 x3 x6 t0 hr_x0 hk_x0 h I (lv_sub hl [1, 2, 3, 4, 7, 0] rfl)
        · refine lv_iload F.1 F.2.1 dX7_match_140 (lv_at hl 0 rfl) ?_
          refine lv_iload F.1 F.2.1 dX7_match_142 (lv_at hl 6 rfl) ?_
          refine r_icmp_le (tgt := 155) F dX7_match_144 (by decide) h (fun h => ?_) (fun h => ?_)
          · exact hj_155 S _ _ _ x0 x1 x2 x3 x4 x5 x6 hr_x0 hk_x0 h I (lv_sub hl [1, 2, 3, 4, 5, 6, 7] rfl)
          · exact hj_147 S _ _ _ x0 x1 x2 x3 x6 t0 hr_x0 hk_x0 h I (lv_sub hl [1, 2, 3, 4, 7, 0] rfl)
      intro S H locs ls x0 x1 x2 x3 x4 x5 x6 hr_x0 hk_x0 h I hl
      rw [LX7_match_60] at h
      refine lv_iload F.1 F.2.1 dX7_match_60 (lv_at hl 6 rfl) ?_
      refine lv_aload_n F.1 F.2.1 dX7_match_62 rfl (lv_at hl 0 rfl) ?_
      refine r_getN F I hr_x0 hk_x0 fX7_10 (f := 0) rfl (by decide) dX7_match_63 h (fun b2 hr_b2 hk_b2 h => ?_)
      refine r_getI F I hr_b2 hk_b2 fX7_174 rfl dX7_match_66 h (fun z3 h => ?_)
      refine r_icmp_ge (tgt := 161) F dX7_match_69 (by decide) h (fun h => ?_) (fun h => ?_)
      · refine lv_iload_n F.1 F.2.1 dX7_match_161 rfl (lv_at hl 3 rfl) ?_
        refine r_if_ne (tgt := 170) F dX7_match_162 (by decide) h (fun h => ?_) (fun h => ?_)
        · refine lv_iload F.1 F.2.1 dX7_match_170 (lv_at hl 5 rfl) ?_
          exact r_ireturn F I ⟨hr.1, hr.2.1, trivial⟩ h dX7_match_172
        · refine lv_iload F.1 F.2.1 dX7_match_165 (lv_at hl 4 rfl) ?_
          refine lv_goto (tgt := 172) F.1 F.2.1 dX7_match_167 (by decide) ?_
          exact r_ireturn F I ⟨hr.1, hr.2.1, trivial⟩ h dX7_match_172
      · refine lv_aload_n F.1 F.2.1 dX7_match_72 rfl (lv_at hl 0 rfl) ?_
        refine r_getN F I hr_x0 hk_x0 fX7_10 (f := 0) rfl (by decide) dX7_match_73 h (fun b4 hr_b4 hk_b4 h => ?_)
        refine r_getN F I hr_b4 hk_b4 fX7_98 (f := 9) rfl (by decide) dX7_match_76 h (fun b5 hr_b5 hk_b5 h => ?_)
        refine lv_iload F.1 F.2.1 dX7_match_79 (lv_at hl 6 rfl) ?_
        refine r_ald F I hr_b5 hk_b5 dX7_match_81 h (fun z6 h => ?_)
        refine lv_aload_n F.1 F.2.1 dX7_match_82 rfl (lv_at hl 0 rfl) ?_
        refine r_getN F I hr_x0 hk_x0 fX7_10 (f := 0) rfl (by decide) dX7_match_83 h (fun b7 hr_b7 hk_b7 h => ?_)
        refine r_getN F I hr_b7 hk_b7 fX7_98 (f := 9) rfl (by decide) dX7_match_86 h (fun b8 hr_b8 hk_b8 h => ?_)
        refine lv_iload_n F.1 F.2.1 dX7_match_89 rfl (lv_at hl 1 rfl) ?_
        refine r_ald F I hr_b8 hk_b8 dX7_match_90 h (fun z9 h => ?_)
        refine r_icmp_eq (tgt := 155) F dX7_match_91 (by decide) h (fun h => ?_) (fun h => ?_)
        · exact hj_155 S _ _ _ x0 x1 x2 x3 x4 x5 x6 hr_x0 hk_x0 h I (lv_sub hl [0, 1, 2, 3, 4, 5, 6] rfl)
        · refine lv_aload_n F.1 F.2.1 dX7_match_94 rfl (lv_at hl 0 rfl) ?_
          refine r_getN F I hr_x0 hk_x0 fX7_10 (f := 0) rfl (by decide) dX7_match_95 h (fun b10 hr_b10 hk_b10 h => ?_)
          refine r_getN F I hr_b10 hk_b10 fX7_98 (f := 9) rfl (by decide) dX7_match_98 h (fun b11 hr_b11 hk_b11 h => ?_)
          refine lv_iload_n F.1 F.2.1 dX7_match_101 rfl (lv_at hl 1 rfl) ?_
          refine r_ald F I hr_b11 hk_b11 dX7_match_102 h (fun z12 h => ?_)
          refine r_if_ne (tgt := 120) F dX7_match_103 (by decide) h (fun h => ?_) (fun h => ?_)
          · refine lv_aload_n F.1 F.2.1 dX7_match_120 rfl (lv_at hl 0 rfl) ?_
            refine r_getN F I hr_x0 hk_x0 fX7_29 (f := 4) rfl (by decide) dX7_match_121 h (fun b13 hr_b13 hk_b13 h => ?_)
            refine lv_iload F.1 F.2.1 dX7_match_124 (lv_at hl 6 rfl) ?_
            refine lv_iload_n F.1 F.2.1 dX7_match_126 rfl (lv_at hl 1 rfl) ?_
            refine lv_iload_n F.1 F.2.1 dX7_match_127 rfl (lv_at hl 2 rfl) ?_
            refine g_I I (run_V (As := [.int x6, .int x1, .int x2]) (rest := []) F I hr_b13 hk_b13 (by decide) kX7_177 (ctX4_joined hr_b13 hk_b13 h) ⟨rfl, rfl⟩ ⟨Nat.le_of_ble_eq_true rfl, Nat.le_of_ble_eq_true rfl⟩ rfl hl.1 rfl (Nat.le_of_ble_eq_true rfl) ⟨Nat.le_of_ble_eq_true rfl, Nat.le_of_ble_eq_true rfl⟩ dX7_match_128) (fun z14 S H locs I h => ?_)
            exact hj_131 S _ _ _ x0 x1 x2 x3 x4 x5 x6 z14 hr_x0 hk_x0 h I (lv_sub hl [0, 1, 2, 3, 4, 5, 6] rfl)
          · refine lv_aload_n F.1 F.2.1 dX7_match_106 rfl (lv_at hl 0 rfl) ?_
            refine r_getN F I hr_x0 hk_x0 fX7_29 (f := 4) rfl (by decide) dX7_match_107 h (fun b15 hr_b15 hk_b15 h => ?_)
            refine lv_iload_n F.1 F.2.1 dX7_match_110 rfl (lv_at hl 1 rfl) ?_
            refine lv_iload F.1 F.2.1 dX7_match_111 (lv_at hl 6 rfl) ?_
            refine lv_iload_n F.1 F.2.1 dX7_match_113 rfl (lv_at hl 2 rfl) ?_
            refine g_I I (run_V (As := [.int x1, .int x6, .int x2]) (rest := []) F I hr_b15 hk_b15 (by decide) kX7_177 (ctX4_joined hr_b15 hk_b15 h) ⟨rfl, rfl⟩ ⟨Nat.le_of_ble_eq_true rfl, Nat.le_of_ble_eq_true rfl⟩ rfl hl.1 rfl (Nat.le_of_ble_eq_true rfl) ⟨Nat.le_of_ble_eq_true rfl, Nat.le_of_ble_eq_true rfl⟩ dX7_match_114) (fun z16 S H locs I h => ?_)
            refine lv_goto (tgt := 131) F.1 F.2.1 dX7_match_117 (by decide) ?_
            exact hj_131 S _ _ _ x0 x1 x2 x3 x4 x5 x6 z16 hr_x0 hk_x0 h I (lv_sub hl [0, 1, 2, 3, 4, 5, 6] rfl)
  have hj_27 : ∀ (S : HC) (H : Heap) (locs : List Loc) (ls : Array Slot), BX7_match_27 ln post S  → Inv g N ln S s H locs → lv_has ls 8 [] → W p l e rmX7_match s m ([.ref (gz g + a0), .int a1, .int a2, .int a3] : List Value).toArray below meth c H locs 0 0 (MQ below (QI g N ln post) ([.ref (gz g + a0), .int a1, .int a2, .int a3] : List Value).toArray s 0 0 (gF g)) (F0 m 27 ls []) := by
    intro S H locs ls h I hl
    unfold BX7_match_27 at h
    refine lv_ldc F.1 F.2.1 F.2.2.2.1 (F.2.2.2.2 _ tw_334) dX7_match_27 ?_
    exact r_ireturn F I ⟨hr.1, hr.2.1, trivial⟩ h dX7_match_29
  refine lv_aload_n F.1 F.2.1 dX7_match_0 rfl (lv_at hl 0 rfl) ?_
  refine r_getN F I hr_a0 hk_a0 fX7_10 (f := 0) rfl (by decide) dX7_match_1 h (fun b17 hr_b17 hk_b17 h => ?_)
  refine lv_iload_n F.1 F.2.1 dX7_match_4 rfl (lv_at hl 1 rfl) ?_
  refine g_I I (run_V (As := [.int a1]) (rest := []) F I hr_b17 hk_b17 (by decide) kX7_86 (ctX0_has hr_b17 hk_b17 h) ⟨rfl, rfl⟩ ⟨Nat.le_of_ble_eq_true rfl, Nat.le_of_ble_eq_true rfl⟩ rfl hl.1 rfl (Nat.le_of_ble_eq_true rfl) ⟨Nat.le_of_ble_eq_true rfl, Nat.le_of_ble_eq_true rfl⟩ dX7_match_5) (fun z18 S H locs I h => ?_)
  refine r_if_eq (tgt := 27) F dX7_match_8 (by decide) h (fun h => ?_) (fun h => ?_)
  · exact hj_27 S _ _ _   h I (lv_sub hl [] rfl)
  · refine lv_iload_n F.1 F.2.1 dX7_match_11 rfl (lv_at hl 2 rfl) ?_
    refine g_I I (run_S (As := [.int a2]) (rest := []) F I kX7_74 (ctX7_isCharge h) ⟨rfl, rfl⟩ ⟨Nat.le_of_ble_eq_true rfl, Nat.le_of_ble_eq_true rfl⟩ rfl hl.1 rfl (Nat.le_of_ble_eq_true rfl) ⟨Nat.le_of_ble_eq_true rfl, Nat.le_of_ble_eq_true rfl⟩ dX7_match_12) (fun z19 S H locs I h => ?_)
    refine r_if_eq (tgt := 27) F dX7_match_15 (by decide) h (fun h => ?_) (fun h => ?_)
    · exact hj_27 S _ _ _   h I (lv_sub hl [] rfl)
    · refine lv_iload_n F.1 F.2.1 dX7_match_18 rfl (lv_at hl 3 rfl) ?_
      refine r_if_lt (tgt := 27) F dX7_match_19 (by decide) h (fun h => ?_) (fun h => ?_)
      · exact hj_27 S _ _ _   h I (lv_sub hl [] rfl)
      · refine lv_iload_n F.1 F.2.1 dX7_match_22 rfl (lv_at hl 3 rfl) ?_
        refine lv_iconst (v := 1) F.1 F.2.1 dX7_match_23 (by decide) ?_
        refine r_icmp_le (tgt := 30) F dX7_match_24 (by decide) h (fun h => ?_) (fun h => ?_)
        · refine lv_aload_n F.1 F.2.1 dX7_match_30 rfl (lv_at hl 0 rfl) ?_
          refine r_getN F I hr_a0 hk_a0 fX7_29 (f := 4) rfl (by decide) dX7_match_31 h (fun b20 hr_b20 hk_b20 h => ?_)
          refine lv_aload_n F.1 F.2.1 dX7_match_34 rfl (lv_at hl 0 rfl) ?_
          refine r_getN F I hr_a0 hk_a0 fX7_10 (f := 0) rfl (by decide) dX7_match_35 h (fun b21 hr_b21 hk_b21 h => ?_)
          refine g_V I (run_V (As := [.ref (gz g + b21)]) (rest := []) F I hr_b20 hk_b20 (by decide) kX7_114 (ctX4_lookAt hr_b20 hk_b20 hr_b21 hk_b21 h) ⟨rfl, rfl⟩ ⟨Nat.le_of_ble_eq_true rfl, Nat.le_of_ble_eq_true rfl⟩ rfl hl.1 rfl (Nat.le_of_ble_eq_true rfl) ⟨Nat.le_of_ble_eq_true rfl, Nat.le_of_ble_eq_true rfl⟩ dX7_match_38) (fun S H locs I h => ?_)
          refine lv_aload_n F.1 F.2.1 dX7_match_41 rfl (lv_at hl 0 rfl) ?_
          refine r_getN F I hr_a0 hk_a0 fX7_29 (f := 4) rfl (by decide) dX7_match_42 h (fun b22 hr_b22 hk_b22 h => ?_)
          refine lv_iload_n F.1 F.2.1 dX7_match_45 rfl (lv_at hl 2 rfl) ?_
          refine g_V I (run_V (As := [.int a2]) (rest := []) F I hr_b22 hk_b22 (by decide) kX7_118 (ctX4_workOut hr_b22 hk_b22 h) ⟨rfl, rfl⟩ ⟨Nat.le_of_ble_eq_true rfl, Nat.le_of_ble_eq_true rfl⟩ rfl hl.1 rfl (Nat.le_of_ble_eq_true rfl) ⟨Nat.le_of_ble_eq_true rfl, Nat.le_of_ble_eq_true rfl⟩ dX7_match_46) (fun S H locs I h => ?_)
          refine lv_ldc F.1 F.2.1 F.2.2.2.1 (F.2.2.2.2 _ tw_534) dX7_match_49 ?_
          refine lv_istore (lv' := [(4, .int (-1000000005 : Int32)), (0, .ref (gz g + a0)), (1, .int a1), (2, .int a2), (3, .int a3)]) F.1 F.2.1 dX7_match_51 hl (by decide) rfl (fun ls hl => ?_)
          refine lv_ldc F.1 F.2.1 F.2.2.2.1 (F.2.2.2.2 _ tw_534) dX7_match_53 ?_
          refine lv_istore (lv' := [(5, .int (-1000000005 : Int32)), (4, .int (-1000000005 : Int32)), (0, .ref (gz g + a0)), (1, .int a1), (2, .int a2), (3, .int a3)]) F.1 F.2.1 dX7_match_55 hl (by decide) rfl (fun ls hl => ?_)
          refine lv_iconst (v := 0) F.1 F.2.1 dX7_match_57 (by decide) ?_
          refine lv_istore (lv' := [(6, .int (0 : Int32)), (5, .int (-1000000005 : Int32)), (4, .int (-1000000005 : Int32)), (0, .ref (gz g + a0)), (1, .int a1), (2, .int a2), (3, .int a3)]) F.1 F.2.1 dX7_match_58 hl (by decide) rfl (fun ls hl => ?_)
          obtain ⟨n60, h⟩ := h
          exact hl_60 n60 S _ _ _ a0 a1 a2 a3 (-1000000005 : Int32) (-1000000005 : Int32) (0 : Int32) hr_a0 hk_a0 h I (lv_sub hl [3, 4, 5, 6, 2, 1, 0] rfl)
        · exact hj_27 S _ _ _   h I (lv_sub hl [] rfl)
theorem bdX7_repaint_0 : ∀ q ∈ ([(0, .aload_n 0, 1), (1, .getfield 23, 3), (4, .aload_n 0, 1), (5, .getfield 10, 3), (8, .invokevirtual 181, 3), (11, .aload_n 0, 1), (12, .getfield 29, 3), (15, .aload_n 0, 1), (16, .getfield 23, 3), (19, .invokevirtual 149, 3), (22, .aload_n 0, 1), (23, .getfield 29, 3), (26, .invokevirtual 156, 3), (29, .istore_n 1, 1), (30, .ldc 173, 2), (32, .istore_n 2, 1), (33, .iconst 0, 1), (34, .istore_n 3, 1), (35, .iload_n 3, 1), (36, .aload_n 0, 1), (37, .getfield 23, 3), (40, .getfield 174, 3), (43, .if_icmp .ge 89, 3), (46, .aload_n 0, 1), (47, .getfield 23, 3), (50, .getfield 92, 3), (53, .iload_n 3, 1), (54, .iaload, 1), (55, .iconst (-1), 1), (56, .if_icmp .ne 70, 3), (59, .aload_n 0, 1), (60, .getfield 23, 3), (63, .getfield 101, 3), (66, .iload_n 3, 1), (67, .iaload, 1), (68, .istore 4, 2), (70, .iconst 0, 1), (71, .istore 5, 2), (73, .iload 5, 2), (75, .bipush 8, 2)] : List (Nat × Jvm.ClassFile.Instr × Nat)), decode cX7_repaint q.1 = .ok q.2 := chk_ok _ 0 _ rfl (by decide +kernel)
theorem dX7_repaint_0 : decode cX7_repaint 0 = .ok (.aload_n 0, 1) := bdX7_repaint_0 (0, .aload_n 0, 1) (List.mem_of_getElem? (i := 0) rfl)
theorem dX7_repaint_1 : decode cX7_repaint 1 = .ok (.getfield 23, 3) := bdX7_repaint_0 (1, .getfield 23, 3) (List.mem_of_getElem? (i := 1) rfl)
theorem dX7_repaint_4 : decode cX7_repaint 4 = .ok (.aload_n 0, 1) := bdX7_repaint_0 (4, .aload_n 0, 1) (List.mem_of_getElem? (i := 2) rfl)
theorem dX7_repaint_5 : decode cX7_repaint 5 = .ok (.getfield 10, 3) := bdX7_repaint_0 (5, .getfield 10, 3) (List.mem_of_getElem? (i := 3) rfl)
theorem dX7_repaint_8 : decode cX7_repaint 8 = .ok (.invokevirtual 181, 3) := bdX7_repaint_0 (8, .invokevirtual 181, 3) (List.mem_of_getElem? (i := 4) rfl)
theorem dX7_repaint_11 : decode cX7_repaint 11 = .ok (.aload_n 0, 1) := bdX7_repaint_0 (11, .aload_n 0, 1) (List.mem_of_getElem? (i := 5) rfl)
theorem dX7_repaint_12 : decode cX7_repaint 12 = .ok (.getfield 29, 3) := bdX7_repaint_0 (12, .getfield 29, 3) (List.mem_of_getElem? (i := 6) rfl)
theorem dX7_repaint_15 : decode cX7_repaint 15 = .ok (.aload_n 0, 1) := bdX7_repaint_0 (15, .aload_n 0, 1) (List.mem_of_getElem? (i := 7) rfl)
theorem dX7_repaint_16 : decode cX7_repaint 16 = .ok (.getfield 23, 3) := bdX7_repaint_0 (16, .getfield 23, 3) (List.mem_of_getElem? (i := 8) rfl)
theorem dX7_repaint_19 : decode cX7_repaint 19 = .ok (.invokevirtual 149, 3) := bdX7_repaint_0 (19, .invokevirtual 149, 3) (List.mem_of_getElem? (i := 9) rfl)
theorem dX7_repaint_22 : decode cX7_repaint 22 = .ok (.aload_n 0, 1) := bdX7_repaint_0 (22, .aload_n 0, 1) (List.mem_of_getElem? (i := 10) rfl)
theorem dX7_repaint_23 : decode cX7_repaint 23 = .ok (.getfield 29, 3) := bdX7_repaint_0 (23, .getfield 29, 3) (List.mem_of_getElem? (i := 11) rfl)
theorem dX7_repaint_26 : decode cX7_repaint 26 = .ok (.invokevirtual 156, 3) := bdX7_repaint_0 (26, .invokevirtual 156, 3) (List.mem_of_getElem? (i := 12) rfl)
theorem dX7_repaint_29 : decode cX7_repaint 29 = .ok (.istore_n 1, 1) := bdX7_repaint_0 (29, .istore_n 1, 1) (List.mem_of_getElem? (i := 13) rfl)
theorem dX7_repaint_30 : decode cX7_repaint 30 = .ok (.ldc 173, 2) := bdX7_repaint_0 (30, .ldc 173, 2) (List.mem_of_getElem? (i := 14) rfl)
theorem dX7_repaint_32 : decode cX7_repaint 32 = .ok (.istore_n 2, 1) := bdX7_repaint_0 (32, .istore_n 2, 1) (List.mem_of_getElem? (i := 15) rfl)
theorem dX7_repaint_33 : decode cX7_repaint 33 = .ok (.iconst 0, 1) := bdX7_repaint_0 (33, .iconst 0, 1) (List.mem_of_getElem? (i := 16) rfl)
theorem dX7_repaint_34 : decode cX7_repaint 34 = .ok (.istore_n 3, 1) := bdX7_repaint_0 (34, .istore_n 3, 1) (List.mem_of_getElem? (i := 17) rfl)
theorem dX7_repaint_35 : decode cX7_repaint 35 = .ok (.iload_n 3, 1) := bdX7_repaint_0 (35, .iload_n 3, 1) (List.mem_of_getElem? (i := 18) rfl)
theorem dX7_repaint_36 : decode cX7_repaint 36 = .ok (.aload_n 0, 1) := bdX7_repaint_0 (36, .aload_n 0, 1) (List.mem_of_getElem? (i := 19) rfl)
theorem dX7_repaint_37 : decode cX7_repaint 37 = .ok (.getfield 23, 3) := bdX7_repaint_0 (37, .getfield 23, 3) (List.mem_of_getElem? (i := 20) rfl)
theorem dX7_repaint_40 : decode cX7_repaint 40 = .ok (.getfield 174, 3) := bdX7_repaint_0 (40, .getfield 174, 3) (List.mem_of_getElem? (i := 21) rfl)
theorem dX7_repaint_43 : decode cX7_repaint 43 = .ok (.if_icmp .ge 89, 3) := bdX7_repaint_0 (43, .if_icmp .ge 89, 3) (List.mem_of_getElem? (i := 22) rfl)
theorem dX7_repaint_46 : decode cX7_repaint 46 = .ok (.aload_n 0, 1) := bdX7_repaint_0 (46, .aload_n 0, 1) (List.mem_of_getElem? (i := 23) rfl)
theorem dX7_repaint_47 : decode cX7_repaint 47 = .ok (.getfield 23, 3) := bdX7_repaint_0 (47, .getfield 23, 3) (List.mem_of_getElem? (i := 24) rfl)
theorem dX7_repaint_50 : decode cX7_repaint 50 = .ok (.getfield 92, 3) := bdX7_repaint_0 (50, .getfield 92, 3) (List.mem_of_getElem? (i := 25) rfl)
theorem dX7_repaint_53 : decode cX7_repaint 53 = .ok (.iload_n 3, 1) := bdX7_repaint_0 (53, .iload_n 3, 1) (List.mem_of_getElem? (i := 26) rfl)
theorem dX7_repaint_54 : decode cX7_repaint 54 = .ok (.iaload, 1) := bdX7_repaint_0 (54, .iaload, 1) (List.mem_of_getElem? (i := 27) rfl)
theorem dX7_repaint_55 : decode cX7_repaint 55 = .ok (.iconst (-1), 1) := bdX7_repaint_0 (55, .iconst (-1), 1) (List.mem_of_getElem? (i := 28) rfl)
theorem dX7_repaint_56 : decode cX7_repaint 56 = .ok (.if_icmp .ne 70, 3) := bdX7_repaint_0 (56, .if_icmp .ne 70, 3) (List.mem_of_getElem? (i := 29) rfl)
theorem dX7_repaint_59 : decode cX7_repaint 59 = .ok (.aload_n 0, 1) := bdX7_repaint_0 (59, .aload_n 0, 1) (List.mem_of_getElem? (i := 30) rfl)
theorem dX7_repaint_60 : decode cX7_repaint 60 = .ok (.getfield 23, 3) := bdX7_repaint_0 (60, .getfield 23, 3) (List.mem_of_getElem? (i := 31) rfl)
theorem dX7_repaint_63 : decode cX7_repaint 63 = .ok (.getfield 101, 3) := bdX7_repaint_0 (63, .getfield 101, 3) (List.mem_of_getElem? (i := 32) rfl)
theorem dX7_repaint_66 : decode cX7_repaint 66 = .ok (.iload_n 3, 1) := bdX7_repaint_0 (66, .iload_n 3, 1) (List.mem_of_getElem? (i := 33) rfl)
theorem dX7_repaint_67 : decode cX7_repaint 67 = .ok (.iaload, 1) := bdX7_repaint_0 (67, .iaload, 1) (List.mem_of_getElem? (i := 34) rfl)
theorem dX7_repaint_68 : decode cX7_repaint 68 = .ok (.istore 4, 2) := bdX7_repaint_0 (68, .istore 4, 2) (List.mem_of_getElem? (i := 35) rfl)
theorem dX7_repaint_70 : decode cX7_repaint 70 = .ok (.iconst 0, 1) := bdX7_repaint_0 (70, .iconst 0, 1) (List.mem_of_getElem? (i := 36) rfl)
theorem dX7_repaint_71 : decode cX7_repaint 71 = .ok (.istore 5, 2) := bdX7_repaint_0 (71, .istore 5, 2) (List.mem_of_getElem? (i := 37) rfl)
theorem dX7_repaint_73 : decode cX7_repaint 73 = .ok (.iload 5, 2) := bdX7_repaint_0 (73, .iload 5, 2) (List.mem_of_getElem? (i := 38) rfl)
theorem dX7_repaint_75 : decode cX7_repaint 75 = .ok (.bipush 8, 2) := bdX7_repaint_0 (75, .bipush 8, 2) (List.mem_of_getElem? (i := 39) rfl)
theorem bdX7_repaint_77 : ∀ q ∈ ([(77, .if_icmp .ge 49, 3), (80, .aload_n 0, 1), (81, .iload_n 3, 1), (82, .iload 5, 2), (84, .invokevirtual 184, 3), (87, .aload_n 0, 1), (88, .getfield 29, 3), (91, .invokevirtual 156, 3), (94, .istore 6, 2), (96, .iload 6, 2), (98, .iload_n 1, 1), (99, .if_icmp .ge 14, 3), (102, .iload 6, 2), (104, .istore_n 1, 1), (105, .bipush 10, 2), (107, .iload_n 3, 1), (108, .imul, 1), (109, .iload 5, 2), (111, .iadd, 1), (112, .istore_n 2, 1), (113, .aload_n 0, 1), (114, .iload_n 3, 1), (115, .iload 4, 2), (117, .invokevirtual 184, 3), (120, .iinc 5 1, 3), (123, .goto (-50), 3), (126, .iinc 3 1, 3), (129, .goto (-94), 3), (132, .iload_n 2, 1), (133, .ireturn, 1)] : List (Nat × Jvm.ClassFile.Instr × Nat)), decode cX7_repaint q.1 = .ok q.2 := chk_ok _ 77 _ rfl (by decide +kernel)
theorem dX7_repaint_77 : decode cX7_repaint 77 = .ok (.if_icmp .ge 49, 3) := bdX7_repaint_77 (77, .if_icmp .ge 49, 3) (List.mem_of_getElem? (i := 0) rfl)
theorem dX7_repaint_80 : decode cX7_repaint 80 = .ok (.aload_n 0, 1) := bdX7_repaint_77 (80, .aload_n 0, 1) (List.mem_of_getElem? (i := 1) rfl)
theorem dX7_repaint_81 : decode cX7_repaint 81 = .ok (.iload_n 3, 1) := bdX7_repaint_77 (81, .iload_n 3, 1) (List.mem_of_getElem? (i := 2) rfl)
theorem dX7_repaint_82 : decode cX7_repaint 82 = .ok (.iload 5, 2) := bdX7_repaint_77 (82, .iload 5, 2) (List.mem_of_getElem? (i := 3) rfl)
theorem dX7_repaint_84 : decode cX7_repaint 84 = .ok (.invokevirtual 184, 3) := bdX7_repaint_77 (84, .invokevirtual 184, 3) (List.mem_of_getElem? (i := 4) rfl)
theorem dX7_repaint_87 : decode cX7_repaint 87 = .ok (.aload_n 0, 1) := bdX7_repaint_77 (87, .aload_n 0, 1) (List.mem_of_getElem? (i := 5) rfl)
theorem dX7_repaint_88 : decode cX7_repaint 88 = .ok (.getfield 29, 3) := bdX7_repaint_77 (88, .getfield 29, 3) (List.mem_of_getElem? (i := 6) rfl)
theorem dX7_repaint_91 : decode cX7_repaint 91 = .ok (.invokevirtual 156, 3) := bdX7_repaint_77 (91, .invokevirtual 156, 3) (List.mem_of_getElem? (i := 7) rfl)
theorem dX7_repaint_94 : decode cX7_repaint 94 = .ok (.istore 6, 2) := bdX7_repaint_77 (94, .istore 6, 2) (List.mem_of_getElem? (i := 8) rfl)
theorem dX7_repaint_96 : decode cX7_repaint 96 = .ok (.iload 6, 2) := bdX7_repaint_77 (96, .iload 6, 2) (List.mem_of_getElem? (i := 9) rfl)
theorem dX7_repaint_98 : decode cX7_repaint 98 = .ok (.iload_n 1, 1) := bdX7_repaint_77 (98, .iload_n 1, 1) (List.mem_of_getElem? (i := 10) rfl)
theorem dX7_repaint_99 : decode cX7_repaint 99 = .ok (.if_icmp .ge 14, 3) := bdX7_repaint_77 (99, .if_icmp .ge 14, 3) (List.mem_of_getElem? (i := 11) rfl)
theorem dX7_repaint_102 : decode cX7_repaint 102 = .ok (.iload 6, 2) := bdX7_repaint_77 (102, .iload 6, 2) (List.mem_of_getElem? (i := 12) rfl)
theorem dX7_repaint_104 : decode cX7_repaint 104 = .ok (.istore_n 1, 1) := bdX7_repaint_77 (104, .istore_n 1, 1) (List.mem_of_getElem? (i := 13) rfl)
theorem dX7_repaint_105 : decode cX7_repaint 105 = .ok (.bipush 10, 2) := bdX7_repaint_77 (105, .bipush 10, 2) (List.mem_of_getElem? (i := 14) rfl)
theorem dX7_repaint_107 : decode cX7_repaint 107 = .ok (.iload_n 3, 1) := bdX7_repaint_77 (107, .iload_n 3, 1) (List.mem_of_getElem? (i := 15) rfl)
theorem dX7_repaint_108 : decode cX7_repaint 108 = .ok (.imul, 1) := bdX7_repaint_77 (108, .imul, 1) (List.mem_of_getElem? (i := 16) rfl)
theorem dX7_repaint_109 : decode cX7_repaint 109 = .ok (.iload 5, 2) := bdX7_repaint_77 (109, .iload 5, 2) (List.mem_of_getElem? (i := 17) rfl)
theorem dX7_repaint_111 : decode cX7_repaint 111 = .ok (.iadd, 1) := bdX7_repaint_77 (111, .iadd, 1) (List.mem_of_getElem? (i := 18) rfl)
theorem dX7_repaint_112 : decode cX7_repaint 112 = .ok (.istore_n 2, 1) := bdX7_repaint_77 (112, .istore_n 2, 1) (List.mem_of_getElem? (i := 19) rfl)
theorem dX7_repaint_113 : decode cX7_repaint 113 = .ok (.aload_n 0, 1) := bdX7_repaint_77 (113, .aload_n 0, 1) (List.mem_of_getElem? (i := 20) rfl)
theorem dX7_repaint_114 : decode cX7_repaint 114 = .ok (.iload_n 3, 1) := bdX7_repaint_77 (114, .iload_n 3, 1) (List.mem_of_getElem? (i := 21) rfl)
theorem dX7_repaint_115 : decode cX7_repaint 115 = .ok (.iload 4, 2) := bdX7_repaint_77 (115, .iload 4, 2) (List.mem_of_getElem? (i := 22) rfl)
theorem dX7_repaint_117 : decode cX7_repaint 117 = .ok (.invokevirtual 184, 3) := bdX7_repaint_77 (117, .invokevirtual 184, 3) (List.mem_of_getElem? (i := 23) rfl)
theorem dX7_repaint_120 : decode cX7_repaint 120 = .ok (.iinc 5 1, 3) := bdX7_repaint_77 (120, .iinc 5 1, 3) (List.mem_of_getElem? (i := 24) rfl)
theorem dX7_repaint_123 : decode cX7_repaint 123 = .ok (.goto (-50), 3) := bdX7_repaint_77 (123, .goto (-50), 3) (List.mem_of_getElem? (i := 25) rfl)
theorem dX7_repaint_126 : decode cX7_repaint 126 = .ok (.iinc 3 1, 3) := bdX7_repaint_77 (126, .iinc 3 1, 3) (List.mem_of_getElem? (i := 26) rfl)
theorem dX7_repaint_129 : decode cX7_repaint 129 = .ok (.goto (-94), 3) := bdX7_repaint_77 (129, .goto (-94), 3) (List.mem_of_getElem? (i := 27) rfl)
theorem dX7_repaint_132 : decode cX7_repaint 132 = .ok (.iload_n 2, 1) := bdX7_repaint_77 (132, .iload_n 2, 1) (List.mem_of_getElem? (i := 28) rfl)
theorem dX7_repaint_133 : decode cX7_repaint 133 = .ok (.ireturn, 1) := bdX7_repaint_77 (133, .ireturn, 1) (List.mem_of_getElem? (i := 29) rfl)
theorem kX7_184 : mthV RX7 184 7 yX7_repaintThought prog_1_method_45_code 4 (Option.none : Option Jvm.ClassFile.FieldType) 2 := ⟨⟨⟨tw_548, tw_60, tw_551⟩, rfl, by decide +kernel⟩, tw_550, tw_5, rfl⟩
def BX7_repaint_126 (ln : Nat → Nat) (post : Int32 → HC → Prop) (K35 : HC → Nat → Int32 → Int32 → Int32 → Prop) (S : HC) (x0 : Nat) (x1 : Int32) (x2 : Int32) (x3 : Int32) : Prop := lt_ (x3 + (1 : Int32)) fun z1 => K35 S x0 x1 x2 z1
def BX7_repaint_113 (ln : Nat → Nat) (post : Int32 → HC → Prop) (K35 : HC → Nat → Int32 → Int32 → Int32 → Prop) (K73 : HC → Nat → Int32 → Int32 → Int32 → Int32 → Int32 → Prop) (S : HC) (x0 : Nat) (x1 : Int32) (x2 : Int32) (x3 : Int32) (x4 : Int32) (x5 : Int32) : Prop := wpX7_repaintThought ln S x0 x3 x4 fun S => lt_ (x5 + (1 : Int32)) fun z2 => K73 S x0 x1 x2 x3 x4 z2
def LX7_repaint_73 (ln : Nat → Nat) (post : Int32 → HC → Prop) (K35 : HC → Nat → Int32 → Int32 → Int32 → Prop) : Nat → HC → Nat → Int32 → Int32 → Int32 → Int32 → Int32 → Prop
  | 0 => fun _ _ _ _ _ _ _ => False
  | n73 + 1 => fun S x0 x1 x2 x3 x4 x5 => if (8 : Int32) ≤ x5 then (BX7_repaint_126 ln post K35 S x0 x1 x2 x3) else (wpX7_repaintThought ln S x0 x3 x5 fun S => dn_ (hR S x0 4) fun b3 => wpX4_clashes ln S b3 fun z4 S => if x1 ≤ z4 then (BX7_repaint_113 ln post K35 (LX7_repaint_73 ln post K35 n73) S x0 x1 x2 x3 x4 x5) else (lt_ ((10 : Int32) * x3) fun z5 => lt_ (z5 + x5) fun z6 => BX7_repaint_113 ln post K35 (LX7_repaint_73 ln post K35 n73) S x0 z4 z6 x3 x4 x5))
def LX7_repaint_35 (ln : Nat → Nat) (post : Int32 → HC → Prop) : Nat → HC → Nat → Int32 → Int32 → Int32 → Prop
  | 0 => fun _ _ _ _ _ => False
  | n35 + 1 => fun S x0 x1 x2 x3 => dn_ (hR S x0 3) fun b7 => lt_ (hI S b7 6) fun z8 => if z8 ≤ x3 then (post x2 S) else (dn_ (hR S x0 3) fun b9 => dn_ (hR S b9 1) fun b10 => al_ (ln b10) x3 (hI S b10) fun z11 => if z11 = (-1 : Int32) then (dn_ (hR S x0 3) fun b12 => dn_ (hR S b12 4) fun b13 => al_ (ln b13) x3 (hI S b13) fun z14 => ∃ n73, LX7_repaint_73 ln post (LX7_repaint_35 ln post n35) n73 S x0 x1 x2 x3 z14 (0 : Int32)) else (BX7_repaint_126 ln post (LX7_repaint_35 ln post n35) S x0 x1 x2 x3))
def wpX7_repaint (ln : Nat → Nat) (S : HC) (a0 : Nat) (post : Int32 → HC → Prop) : Prop := dn_ (hR S a0 3) fun b15 => dn_ (hR S a0 0) fun b16 => wpX0_become ln S b15 b16 fun S => dn_ (hR S a0 4) fun b17 => dn_ (hR S a0 3) fun b18 => wpX4_workOutAll ln S b17 b18 fun S => dn_ (hR S a0 4) fun b19 => wpX4_clashes ln S b19 fun z20 S => ∃ n35, LX7_repaint_35 ln post n35 S a0 z20 (-1000000005 : Int32) (0 : Int32)
abbrev rmX7_repaint : Room := { frames := 6, cells := 0, slots := 0, locals := 144 }
set_option maxHeartbeats 4000000 in
set_option maxRecDepth 100000 in
theorem ctX7_repaint {l : Launch} {g : GX} {N : Nat} {ln : Nat → Nat} {S : HC} {a0 : Nat} {post : Int32 → HC → Prop} (hr_a0 : a0 < N) (hk_a0 : kd a0 = 7) (h : wpX7_repaint ln S a0 post) : Met l yX7_repaint (Cond.code yX7_repaint prog_1_method_17_code 7 (Option.some Jvm.ClassFile.FieldType.int) :: gtbl) rmX7_repaint (va_Pc [.ref (gz g + a0)] (AtP g N ln S)) (QI g N ln post) 0 0 (gF g) := by
  refine m_of (by decide) (Nat.le_of_ble_eq_true rfl) ?_
  intro p e s m below meth c ls F hr I hl
  have hl : lv_has ls 7 [(0, .ref (gz g + a0))] := hl
  unfold wpX7_repaint at h
  have hl_35 : ∀ n35 : Nat, ∀ (S : HC) (H : Heap) (locs : List Loc) (ls : Array Slot) (x0 : Nat) (x1 : Int32) (x2 : Int32) (x3 : Int32), x0 < N → kd x0 = 7 → LX7_repaint_35 ln post n35 S x0 x1 x2 x3 → Inv g N ln S s H locs → lv_has ls 7 [(0, .ref (gz g + x0)), (1, .int x1), (2, .int x2), (3, .int x3)] → W p l e rmX7_repaint s m ([.ref (gz g + a0)] : List Value).toArray below meth c H locs 0 0 (MQ below (QI g N ln post) ([.ref (gz g + a0)] : List Value).toArray s 0 0 (gF g)) (F0 m 35 ls []) := by
    intro n35
    induction n35 with
    | zero =>
      intro S H locs ls x0 x1 x2 x3 hr_x0 hk_x0 h I hl
      exact h.elim
    | succ n35 ih =>
      have hk35 := ih
      have hj_126 : ∀ (S : HC) (H : Heap) (locs : List Loc) (ls : Array Slot) (x0 : Nat) (x1 : Int32) (x2 : Int32) (x3 : Int32), x0 < N → kd x0 = 7 → BX7_repaint_126 ln post (LX7_repaint_35 ln post n35) S x0 x1 x2 x3 → Inv g N ln S s H locs → lv_has ls 7 [(0, .ref (gz g + x0)), (1, .int x1), (2, .int x2), (3, .int x3)] → W p l e rmX7_repaint s m ([.ref (gz g + a0)] : List Value).toArray below meth c H locs 0 0 (MQ below (QI g N ln post) ([.ref (gz g + a0)] : List Value).toArray s 0 0 (gF g)) (F0 m 126 ls []) := by
        intro S H locs ls x0 x1 x2 x3 hr_x0 hk_x0 h I hl
        unfold BX7_repaint_126 at h
        obtain ⟨z1, e_z1, h⟩ := lt_x h
        refine lv_iinc (v := z1) (lv' := [(3, .int z1), (0, .ref (gz g + x0)), (1, .int x1), (2, .int x2)]) F.1 F.2.1 dX7_repaint_126 hl (k := 3) rfl (by rw [e_z1]; rfl) (by decide) rfl (fun ls hl => ?_)
        refine lv_goto (tgt := 35) F.1 F.2.1 dX7_repaint_129 (by decide) ?_
        exact hk35 S _ _ _ x0 x1 x2 z1 hr_x0 hk_x0 h I (lv_sub hl [1, 2, 3, 0] rfl)
      have hl_73 : ∀ n73 : Nat, ∀ (S : HC) (H : Heap) (locs : List Loc) (ls : Array Slot) (x0 : Nat) (x1 : Int32) (x2 : Int32) (x3 : Int32) (x4 : Int32) (x5 : Int32), x0 < N → kd x0 = 7 → LX7_repaint_73 ln post (LX7_repaint_35 ln post n35) n73 S x0 x1 x2 x3 x4 x5 → Inv g N ln S s H locs → lv_has ls 7 [(0, .ref (gz g + x0)), (1, .int x1), (2, .int x2), (3, .int x3), (4, .int x4), (5, .int x5)] → W p l e rmX7_repaint s m ([.ref (gz g + a0)] : List Value).toArray below meth c H locs 0 0 (MQ below (QI g N ln post) ([.ref (gz g + a0)] : List Value).toArray s 0 0 (gF g)) (F0 m 73 ls []) := by
        intro n73
        induction n73 with
        | zero =>
          intro S H locs ls x0 x1 x2 x3 x4 x5 hr_x0 hk_x0 h I hl
          exact h.elim
        | succ n73 ih =>
          have hk73 := ih
          have hj_113 : ∀ (S : HC) (H : Heap) (locs : List Loc) (ls : Array Slot) (x0 : Nat) (x1 : Int32) (x2 : Int32) (x3 : Int32) (x4 : Int32) (x5 : Int32), x0 < N → kd x0 = 7 → BX7_repaint_113 ln post (LX7_repaint_35 ln post n35) (LX7_repaint_73 ln post (LX7_repaint_35 ln post n35) n73) S x0 x1 x2 x3 x4 x5 → Inv g N ln S s H locs → lv_has ls 7 [(0, .ref (gz g + x0)), (1, .int x1), (2, .int x2), (3, .int x3), (4, .int x4), (5, .int x5)] → W p l e rmX7_repaint s m ([.ref (gz g + a0)] : List Value).toArray below meth c H locs 0 0 (MQ below (QI g N ln post) ([.ref (gz g + a0)] : List Value).toArray s 0 0 (gF g)) (F0 m 113 ls []) := by
            intro S H locs ls x0 x1 x2 x3 x4 x5 hr_x0 hk_x0 h I hl
            unfold BX7_repaint_113 at h
            refine lv_aload_n F.1 F.2.1 dX7_repaint_113 rfl (lv_at hl 0 rfl) ?_
            refine lv_iload_n F.1 F.2.1 dX7_repaint_114 rfl (lv_at hl 3 rfl) ?_
            refine lv_iload F.1 F.2.1 dX7_repaint_115 (lv_at hl 4 rfl) ?_
            refine g_V I (run_V (As := [.int x3, .int x4]) (rest := []) F I hr_x0 hk_x0 (by decide) kX7_184 (ctX7_repaintThought hr_x0 hk_x0 h) ⟨rfl, rfl⟩ ⟨Nat.le_of_ble_eq_true rfl, Nat.le_of_ble_eq_true rfl⟩ rfl hl.1 rfl (Nat.le_of_ble_eq_true rfl) ⟨Nat.le_of_ble_eq_true rfl, Nat.le_of_ble_eq_true rfl⟩ dX7_repaint_117) (fun S H locs I h => ?_)
            obtain ⟨z2, e_z2, h⟩ := lt_x h
            refine lv_iinc (v := z2) (lv' := [(5, .int z2), (0, .ref (gz g + x0)), (1, .int x1), (2, .int x2), (3, .int x3), (4, .int x4)]) F.1 F.2.1 dX7_repaint_120 hl (k := 5) rfl (by rw [e_z2]; rfl) (by decide) rfl (fun ls hl => ?_)
            refine lv_goto (tgt := 73) F.1 F.2.1 dX7_repaint_123 (by decide) ?_
            exact hk73 S _ _ _ x0 x1 x2 x3 x4 z2 hr_x0 hk_x0 h I (lv_sub hl [1, 2, 3, 4, 5, 0] rfl)
          intro S H locs ls x0 x1 x2 x3 x4 x5 hr_x0 hk_x0 h I hl
          rw [LX7_repaint_73] at h
          refine lv_iload F.1 F.2.1 dX7_repaint_73 (lv_at hl 5 rfl) ?_
          refine lv_bipush (v := 8) F.1 F.2.1 dX7_repaint_75 (by decide) ?_
          refine r_icmp_ge (tgt := 126) F dX7_repaint_77 (by decide) h (fun h => ?_) (fun h => ?_)
          · exact hj_126 S _ _ _ x0 x1 x2 x3 hr_x0 hk_x0 h I (lv_sub hl [0, 1, 2, 3] rfl)
          · refine lv_aload_n F.1 F.2.1 dX7_repaint_80 rfl (lv_at hl 0 rfl) ?_
            refine lv_iload_n F.1 F.2.1 dX7_repaint_81 rfl (lv_at hl 3 rfl) ?_
            refine lv_iload F.1 F.2.1 dX7_repaint_82 (lv_at hl 5 rfl) ?_
            refine g_V I (run_V (As := [.int x3, .int x5]) (rest := []) F I hr_x0 hk_x0 (by decide) kX7_184 (ctX7_repaintThought hr_x0 hk_x0 h) ⟨rfl, rfl⟩ ⟨Nat.le_of_ble_eq_true rfl, Nat.le_of_ble_eq_true rfl⟩ rfl hl.1 rfl (Nat.le_of_ble_eq_true rfl) ⟨Nat.le_of_ble_eq_true rfl, Nat.le_of_ble_eq_true rfl⟩ dX7_repaint_84) (fun S H locs I h => ?_)
            refine lv_aload_n F.1 F.2.1 dX7_repaint_87 rfl (lv_at hl 0 rfl) ?_
            refine r_getN F I hr_x0 hk_x0 fX7_29 (f := 4) rfl (by decide) dX7_repaint_88 h (fun b3 hr_b3 hk_b3 h => ?_)
            refine g_I I (run_V (As := []) (rest := []) F I hr_b3 hk_b3 (by decide) kX7_156 (ctX4_clashes hr_b3 hk_b3 h) ⟨rfl, rfl⟩ ⟨Nat.le_of_ble_eq_true rfl, Nat.le_of_ble_eq_true rfl⟩ rfl hl.1 rfl (Nat.le_of_ble_eq_true rfl) ⟨Nat.le_of_ble_eq_true rfl, Nat.le_of_ble_eq_true rfl⟩ dX7_repaint_91) (fun z4 S H locs I h => ?_)
            refine lv_istore (lv' := [(6, .int z4), (0, .ref (gz g + x0)), (1, .int x1), (2, .int x2), (3, .int x3), (4, .int x4), (5, .int x5)]) F.1 F.2.1 dX7_repaint_94 hl (by decide) rfl (fun ls hl => ?_)
            refine lv_iload F.1 F.2.1 dX7_repaint_96 (lv_at hl 0 rfl) ?_
            refine lv_iload_n F.1 F.2.1 dX7_repaint_98 rfl (lv_at hl 2 rfl) ?_
            refine r_icmp_ge (tgt := 113) F dX7_repaint_99 (by decide) h (fun h => ?_) (fun h => ?_)
            · exact hj_113 S _ _ _ x0 x1 x2 x3 x4 x5 hr_x0 hk_x0 h I (lv_sub hl [1, 2, 3, 4, 5, 6] rfl)
            · refine lv_iload F.1 F.2.1 dX7_repaint_102 (lv_at hl 0 rfl) ?_
              refine lv_istore_n (lv' := [(1, .int z4), (6, .int z4), (0, .ref (gz g + x0)), (2, .int x2), (3, .int x3), (4, .int x4), (5, .int x5)]) F.1 F.2.1 dX7_repaint_104 rfl hl (by decide) rfl (fun ls hl => ?_)
              refine lv_bipush (v := 10) F.1 F.2.1 dX7_repaint_105 (by decide) ?_
              refine lv_iload_n F.1 F.2.1 dX7_repaint_107 rfl (lv_at hl 4 rfl) ?_
              refine r_imul F dX7_repaint_108 h (fun z5 h => ?_)
              refine lv_iload F.1 F.2.1 dX7_repaint_109 (lv_at hl 6 rfl) ?_
              refine r_iadd F dX7_repaint_111 h (fun z6 h => ?_)
              refine lv_istore_n (lv' := [(2, .int z6), (1, .int z4), (6, .int z4), (0, .ref (gz g + x0)), (3, .int x3), (4, .int x4), (5, .int x5)]) F.1 F.2.1 dX7_repaint_112 rfl hl (by decide) rfl (fun ls hl => ?_)
              exact hj_113 S _ _ _ x0 z4 z6 x3 x4 x5 hr_x0 hk_x0 h I (lv_sub hl [3, 1, 0, 4, 5, 6] rfl)
      intro S H locs ls x0 x1 x2 x3 hr_x0 hk_x0 h I hl
      rw [LX7_repaint_35] at h
      refine lv_iload_n F.1 F.2.1 dX7_repaint_35 rfl (lv_at hl 3 rfl) ?_
      refine lv_aload_n F.1 F.2.1 dX7_repaint_36 rfl (lv_at hl 0 rfl) ?_
      refine r_getN F I hr_x0 hk_x0 fX7_23 (f := 0) rfl (by decide) dX7_repaint_37 h (fun b7 hr_b7 hk_b7 h => ?_)
      refine r_getI F I hr_b7 hk_b7 fX7_174 rfl dX7_repaint_40 h (fun z8 h => ?_)
      refine r_icmp_ge (tgt := 132) F dX7_repaint_43 (by decide) h (fun h => ?_) (fun h => ?_)
      · refine lv_iload_n F.1 F.2.1 dX7_repaint_132 rfl (lv_at hl 2 rfl) ?_
        exact r_ireturn F I ⟨hr.1, hr.2.1, trivial⟩ h dX7_repaint_133
      · refine lv_aload_n F.1 F.2.1 dX7_repaint_46 rfl (lv_at hl 0 rfl) ?_
        refine r_getN F I hr_x0 hk_x0 fX7_23 (f := 0) rfl (by decide) dX7_repaint_47 h (fun b9 hr_b9 hk_b9 h => ?_)
        refine r_getN F I hr_b9 hk_b9 fX7_92 (f := 9) rfl (by decide) dX7_repaint_50 h (fun b10 hr_b10 hk_b10 h => ?_)
        refine lv_iload_n F.1 F.2.1 dX7_repaint_53 rfl (lv_at hl 3 rfl) ?_
        refine r_ald F I hr_b10 hk_b10 dX7_repaint_54 h (fun z11 h => ?_)
        refine lv_iconst (v := -1) F.1 F.2.1 dX7_repaint_55 (by decide) ?_
        refine r_icmp_ne (tgt := 126) F dX7_repaint_56 (by decide) h (fun h => ?_) (fun h => ?_)
        · exact hj_126 S _ _ _ x0 x1 x2 x3 hr_x0 hk_x0 h I (lv_sub hl [0, 1, 2, 3] rfl)
        · refine lv_aload_n F.1 F.2.1 dX7_repaint_59 rfl (lv_at hl 0 rfl) ?_
          refine r_getN F I hr_x0 hk_x0 fX7_23 (f := 0) rfl (by decide) dX7_repaint_60 h (fun b12 hr_b12 hk_b12 h => ?_)
          refine r_getN F I hr_b12 hk_b12 fX7_101 (f := 9) rfl (by decide) dX7_repaint_63 h (fun b13 hr_b13 hk_b13 h => ?_)
          refine lv_iload_n F.1 F.2.1 dX7_repaint_66 rfl (lv_at hl 3 rfl) ?_
          refine r_ald F I hr_b13 hk_b13 dX7_repaint_67 h (fun z14 h => ?_)
          refine lv_istore (lv' := [(4, .int z14), (0, .ref (gz g + x0)), (1, .int x1), (2, .int x2), (3, .int x3)]) F.1 F.2.1 dX7_repaint_68 hl (by decide) rfl (fun ls hl => ?_)
          refine lv_iconst (v := 0) F.1 F.2.1 dX7_repaint_70 (by decide) ?_
          refine lv_istore (lv' := [(5, .int (0 : Int32)), (4, .int z14), (0, .ref (gz g + x0)), (1, .int x1), (2, .int x2), (3, .int x3)]) F.1 F.2.1 dX7_repaint_71 hl (by decide) rfl (fun ls hl => ?_)
          obtain ⟨n73, h⟩ := h
          exact hl_73 n73 S _ _ _ x0 x1 x2 x3 z14 (0 : Int32) hr_x0 hk_x0 h I (lv_sub hl [2, 3, 4, 5, 1, 0] rfl)
  refine lv_aload_n F.1 F.2.1 dX7_repaint_0 rfl (lv_at hl 0 rfl) ?_
  refine r_getN F I hr_a0 hk_a0 fX7_23 (f := 0) rfl (by decide) dX7_repaint_1 h (fun b15 hr_b15 hk_b15 h => ?_)
  refine lv_aload_n F.1 F.2.1 dX7_repaint_4 rfl (lv_at hl 0 rfl) ?_
  refine r_getN F I hr_a0 hk_a0 fX7_10 (f := 0) rfl (by decide) dX7_repaint_5 h (fun b16 hr_b16 hk_b16 h => ?_)
  refine g_V I (run_V (As := [.ref (gz g + b16)]) (rest := []) F I hr_b15 hk_b15 (by decide) kX7_181 (ctX0_become hr_b15 hk_b15 hr_b16 hk_b16 h) ⟨rfl, rfl⟩ ⟨Nat.le_of_ble_eq_true rfl, Nat.le_of_ble_eq_true rfl⟩ rfl hl.1 rfl (Nat.le_of_ble_eq_true rfl) ⟨Nat.le_of_ble_eq_true rfl, Nat.le_of_ble_eq_true rfl⟩ dX7_repaint_8) (fun S H locs I h => ?_)
  refine lv_aload_n F.1 F.2.1 dX7_repaint_11 rfl (lv_at hl 0 rfl) ?_
  refine r_getN F I hr_a0 hk_a0 fX7_29 (f := 4) rfl (by decide) dX7_repaint_12 h (fun b17 hr_b17 hk_b17 h => ?_)
  refine lv_aload_n F.1 F.2.1 dX7_repaint_15 rfl (lv_at hl 0 rfl) ?_
  refine r_getN F I hr_a0 hk_a0 fX7_23 (f := 0) rfl (by decide) dX7_repaint_16 h (fun b18 hr_b18 hk_b18 h => ?_)
  refine g_V I (run_V (As := [.ref (gz g + b18)]) (rest := []) F I hr_b17 hk_b17 (by decide) kX7_149 (ctX4_workOutAll hr_b17 hk_b17 hr_b18 hk_b18 h) ⟨rfl, rfl⟩ ⟨Nat.le_of_ble_eq_true rfl, Nat.le_of_ble_eq_true rfl⟩ rfl hl.1 rfl (Nat.le_of_ble_eq_true rfl) ⟨Nat.le_of_ble_eq_true rfl, Nat.le_of_ble_eq_true rfl⟩ dX7_repaint_19) (fun S H locs I h => ?_)
  refine lv_aload_n F.1 F.2.1 dX7_repaint_22 rfl (lv_at hl 0 rfl) ?_
  refine r_getN F I hr_a0 hk_a0 fX7_29 (f := 4) rfl (by decide) dX7_repaint_23 h (fun b19 hr_b19 hk_b19 h => ?_)
  refine g_I I (run_V (As := []) (rest := []) F I hr_b19 hk_b19 (by decide) kX7_156 (ctX4_clashes hr_b19 hk_b19 h) ⟨rfl, rfl⟩ ⟨Nat.le_of_ble_eq_true rfl, Nat.le_of_ble_eq_true rfl⟩ rfl hl.1 rfl (Nat.le_of_ble_eq_true rfl) ⟨Nat.le_of_ble_eq_true rfl, Nat.le_of_ble_eq_true rfl⟩ dX7_repaint_26) (fun z20 S H locs I h => ?_)
  refine lv_istore_n (lv' := [(1, .int z20), (0, .ref (gz g + a0))]) F.1 F.2.1 dX7_repaint_29 rfl hl (by decide) rfl (fun ls hl => ?_)
  refine lv_ldc F.1 F.2.1 F.2.2.2.1 (F.2.2.2.2 _ tw_534) dX7_repaint_30 ?_
  refine lv_istore_n (lv' := [(2, .int (-1000000005 : Int32)), (1, .int z20), (0, .ref (gz g + a0))]) F.1 F.2.1 dX7_repaint_32 rfl hl (by decide) rfl (fun ls hl => ?_)
  refine lv_iconst (v := 0) F.1 F.2.1 dX7_repaint_33 (by decide) ?_
  refine lv_istore_n (lv' := [(3, .int (0 : Int32)), (2, .int (-1000000005 : Int32)), (1, .int z20), (0, .ref (gz g + a0))]) F.1 F.2.1 dX7_repaint_34 rfl hl (by decide) rfl (fun ls hl => ?_)
  obtain ⟨n35, h⟩ := h
  exact hl_35 n35 S _ _ _ a0 z20 (-1000000005 : Int32) (0 : Int32) hr_a0 hk_a0 h I (lv_sub hl [3, 2, 1, 0] rfl)
theorem bdX7_behind_0 : ∀ q ∈ ([(0, .iload_n 1, 1), (1, .ifCond .lt 19, 3), (4, .iload_n 1, 1), (5, .bipush 100, 2), (7, .if_icmp .gt 13, 3), (10, .iload_n 2, 1), (11, .ifCond .lt 9, 3), (14, .iload_n 2, 1), (15, .bipush 9, 2), (17, .if_icmp .le 6, 3), (20, .ldc 73, 2), (22, .ireturn, 1), (23, .aload_n 0, 1), (24, .iload_n 1, 1), (25, .invokevirtual 188, 3), (28, .iload_n 2, 1), (29, .ifCond .ne 11, 3), (32, .aload_n 0, 1), (33, .getfield 23, 3), (36, .getfield 174, 3), (39, .ireturn, 1), (40, .iload_n 2, 1), (41, .iconst 1, 1), (42, .if_icmp .ne 22, 3), (45, .aload_n 0, 1), (46, .getfield 29, 3), (49, .aload_n 0, 1), (50, .getfield 23, 3), (53, .invokevirtual 149, 3), (56, .aload_n 0, 1), (57, .getfield 29, 3), (60, .invokevirtual 156, 3), (63, .ireturn, 1), (64, .aload_n 0, 1), (65, .aload_n 0, 1), (66, .getfield 23, 3), (69, .iload_n 2, 1), (70, .iconst 2, 1), (71, .isub, 1), (72, .invokevirtual 191, 3)] : List (Nat × Jvm.ClassFile.Instr × Nat)), decode cX7_behind q.1 = .ok q.2 := chk_ok _ 0 _ rfl (by decide +kernel)
theorem dX7_behind_0 : decode cX7_behind 0 = .ok (.iload_n 1, 1) := bdX7_behind_0 (0, .iload_n 1, 1) (List.mem_of_getElem? (i := 0) rfl)
theorem dX7_behind_1 : decode cX7_behind 1 = .ok (.ifCond .lt 19, 3) := bdX7_behind_0 (1, .ifCond .lt 19, 3) (List.mem_of_getElem? (i := 1) rfl)
theorem dX7_behind_4 : decode cX7_behind 4 = .ok (.iload_n 1, 1) := bdX7_behind_0 (4, .iload_n 1, 1) (List.mem_of_getElem? (i := 2) rfl)
theorem dX7_behind_5 : decode cX7_behind 5 = .ok (.bipush 100, 2) := bdX7_behind_0 (5, .bipush 100, 2) (List.mem_of_getElem? (i := 3) rfl)
theorem dX7_behind_7 : decode cX7_behind 7 = .ok (.if_icmp .gt 13, 3) := bdX7_behind_0 (7, .if_icmp .gt 13, 3) (List.mem_of_getElem? (i := 4) rfl)
theorem dX7_behind_10 : decode cX7_behind 10 = .ok (.iload_n 2, 1) := bdX7_behind_0 (10, .iload_n 2, 1) (List.mem_of_getElem? (i := 5) rfl)
theorem dX7_behind_11 : decode cX7_behind 11 = .ok (.ifCond .lt 9, 3) := bdX7_behind_0 (11, .ifCond .lt 9, 3) (List.mem_of_getElem? (i := 6) rfl)
theorem dX7_behind_14 : decode cX7_behind 14 = .ok (.iload_n 2, 1) := bdX7_behind_0 (14, .iload_n 2, 1) (List.mem_of_getElem? (i := 7) rfl)
theorem dX7_behind_15 : decode cX7_behind 15 = .ok (.bipush 9, 2) := bdX7_behind_0 (15, .bipush 9, 2) (List.mem_of_getElem? (i := 8) rfl)
theorem dX7_behind_17 : decode cX7_behind 17 = .ok (.if_icmp .le 6, 3) := bdX7_behind_0 (17, .if_icmp .le 6, 3) (List.mem_of_getElem? (i := 9) rfl)
theorem dX7_behind_20 : decode cX7_behind 20 = .ok (.ldc 73, 2) := bdX7_behind_0 (20, .ldc 73, 2) (List.mem_of_getElem? (i := 10) rfl)
theorem dX7_behind_22 : decode cX7_behind 22 = .ok (.ireturn, 1) := bdX7_behind_0 (22, .ireturn, 1) (List.mem_of_getElem? (i := 11) rfl)
theorem dX7_behind_23 : decode cX7_behind 23 = .ok (.aload_n 0, 1) := bdX7_behind_0 (23, .aload_n 0, 1) (List.mem_of_getElem? (i := 12) rfl)
theorem dX7_behind_24 : decode cX7_behind 24 = .ok (.iload_n 1, 1) := bdX7_behind_0 (24, .iload_n 1, 1) (List.mem_of_getElem? (i := 13) rfl)
theorem dX7_behind_25 : decode cX7_behind 25 = .ok (.invokevirtual 188, 3) := bdX7_behind_0 (25, .invokevirtual 188, 3) (List.mem_of_getElem? (i := 14) rfl)
theorem dX7_behind_28 : decode cX7_behind 28 = .ok (.iload_n 2, 1) := bdX7_behind_0 (28, .iload_n 2, 1) (List.mem_of_getElem? (i := 15) rfl)
theorem dX7_behind_29 : decode cX7_behind 29 = .ok (.ifCond .ne 11, 3) := bdX7_behind_0 (29, .ifCond .ne 11, 3) (List.mem_of_getElem? (i := 16) rfl)
theorem dX7_behind_32 : decode cX7_behind 32 = .ok (.aload_n 0, 1) := bdX7_behind_0 (32, .aload_n 0, 1) (List.mem_of_getElem? (i := 17) rfl)
theorem dX7_behind_33 : decode cX7_behind 33 = .ok (.getfield 23, 3) := bdX7_behind_0 (33, .getfield 23, 3) (List.mem_of_getElem? (i := 18) rfl)
theorem dX7_behind_36 : decode cX7_behind 36 = .ok (.getfield 174, 3) := bdX7_behind_0 (36, .getfield 174, 3) (List.mem_of_getElem? (i := 19) rfl)
theorem dX7_behind_39 : decode cX7_behind 39 = .ok (.ireturn, 1) := bdX7_behind_0 (39, .ireturn, 1) (List.mem_of_getElem? (i := 20) rfl)
theorem dX7_behind_40 : decode cX7_behind 40 = .ok (.iload_n 2, 1) := bdX7_behind_0 (40, .iload_n 2, 1) (List.mem_of_getElem? (i := 21) rfl)
theorem dX7_behind_41 : decode cX7_behind 41 = .ok (.iconst 1, 1) := bdX7_behind_0 (41, .iconst 1, 1) (List.mem_of_getElem? (i := 22) rfl)
theorem dX7_behind_42 : decode cX7_behind 42 = .ok (.if_icmp .ne 22, 3) := bdX7_behind_0 (42, .if_icmp .ne 22, 3) (List.mem_of_getElem? (i := 23) rfl)
theorem dX7_behind_45 : decode cX7_behind 45 = .ok (.aload_n 0, 1) := bdX7_behind_0 (45, .aload_n 0, 1) (List.mem_of_getElem? (i := 24) rfl)
theorem dX7_behind_46 : decode cX7_behind 46 = .ok (.getfield 29, 3) := bdX7_behind_0 (46, .getfield 29, 3) (List.mem_of_getElem? (i := 25) rfl)
theorem dX7_behind_49 : decode cX7_behind 49 = .ok (.aload_n 0, 1) := bdX7_behind_0 (49, .aload_n 0, 1) (List.mem_of_getElem? (i := 26) rfl)
theorem dX7_behind_50 : decode cX7_behind 50 = .ok (.getfield 23, 3) := bdX7_behind_0 (50, .getfield 23, 3) (List.mem_of_getElem? (i := 27) rfl)
theorem dX7_behind_53 : decode cX7_behind 53 = .ok (.invokevirtual 149, 3) := bdX7_behind_0 (53, .invokevirtual 149, 3) (List.mem_of_getElem? (i := 28) rfl)
theorem dX7_behind_56 : decode cX7_behind 56 = .ok (.aload_n 0, 1) := bdX7_behind_0 (56, .aload_n 0, 1) (List.mem_of_getElem? (i := 29) rfl)
theorem dX7_behind_57 : decode cX7_behind 57 = .ok (.getfield 29, 3) := bdX7_behind_0 (57, .getfield 29, 3) (List.mem_of_getElem? (i := 30) rfl)
theorem dX7_behind_60 : decode cX7_behind 60 = .ok (.invokevirtual 156, 3) := bdX7_behind_0 (60, .invokevirtual 156, 3) (List.mem_of_getElem? (i := 31) rfl)
theorem dX7_behind_63 : decode cX7_behind 63 = .ok (.ireturn, 1) := bdX7_behind_0 (63, .ireturn, 1) (List.mem_of_getElem? (i := 32) rfl)
theorem dX7_behind_64 : decode cX7_behind 64 = .ok (.aload_n 0, 1) := bdX7_behind_0 (64, .aload_n 0, 1) (List.mem_of_getElem? (i := 33) rfl)
theorem dX7_behind_65 : decode cX7_behind 65 = .ok (.aload_n 0, 1) := bdX7_behind_0 (65, .aload_n 0, 1) (List.mem_of_getElem? (i := 34) rfl)
theorem dX7_behind_66 : decode cX7_behind 66 = .ok (.getfield 23, 3) := bdX7_behind_0 (66, .getfield 23, 3) (List.mem_of_getElem? (i := 35) rfl)
theorem dX7_behind_69 : decode cX7_behind 69 = .ok (.iload_n 2, 1) := bdX7_behind_0 (69, .iload_n 2, 1) (List.mem_of_getElem? (i := 36) rfl)
theorem dX7_behind_70 : decode cX7_behind 70 = .ok (.iconst 2, 1) := bdX7_behind_0 (70, .iconst 2, 1) (List.mem_of_getElem? (i := 37) rfl)
theorem dX7_behind_71 : decode cX7_behind 71 = .ok (.isub, 1) := bdX7_behind_0 (71, .isub, 1) (List.mem_of_getElem? (i := 38) rfl)
theorem dX7_behind_72 : decode cX7_behind 72 = .ok (.invokevirtual 191, 3) := bdX7_behind_0 (72, .invokevirtual 191, 3) (List.mem_of_getElem? (i := 39) rfl)
theorem bdX7_behind_75 : ∀ q ∈ ([(75, .ireturn, 1)] : List (Nat × Jvm.ClassFile.Instr × Nat)), decode cX7_behind q.1 = .ok q.2 := chk_ok _ 75 _ rfl (by decide +kernel)
theorem dX7_behind_75 : decode cX7_behind 75 = .ok (.ireturn, 1) := bdX7_behind_75 (75, .ireturn, 1) (List.mem_of_getElem? (i := 0) rfl)
theorem kX7_188 : mthV RX7 188 7 yX7_think prog_1_method_43_code 3 (Option.none : Option Jvm.ClassFile.FieldType) 1 := ⟨⟨⟨tw_556, tw_60, tw_559⟩, rfl, by decide +kernel⟩, tw_558, tw_6, rfl⟩
theorem kX7_191 : mthV RX7 191 7 yX7_allBear prog_1_method_44_code 3 (Option.some Jvm.ClassFile.FieldType.int) 2 := ⟨⟨⟨tw_560, tw_60, tw_563⟩, rfl, by decide +kernel⟩, tw_562, tw_7, rfl⟩
def BX7_behind_20 (ln : Nat → Nat) (post : Int32 → HC → Prop) (S : HC)  : Prop := post (-1000000001 : Int32) S
def wpX7_behind (ln : Nat → Nat) (S : HC) (a0 : Nat) (a1 : Int32) (a2 : Int32) (post : Int32 → HC → Prop) : Prop := if a1 < 0 then (BX7_behind_20 ln post S) else (if (100 : Int32) < a1 then (BX7_behind_20 ln post S) else (if a2 < 0 then (BX7_behind_20 ln post S) else (if a2 ≤ (9 : Int32) then (wpX7_think ln S a0 a1 fun S => if a2 = 0 then (dn_ (hR S a0 3) fun b8 => lt_ (hI S b8 6) fun z9 => post z9 S) else (if a2 = (1 : Int32) then (dn_ (hR S a0 4) fun b4 => dn_ (hR S a0 3) fun b5 => wpX4_workOutAll ln S b4 b5 fun S => dn_ (hR S a0 4) fun b6 => wpX4_clashes ln S b6 fun z7 S => post z7 S) else (dn_ (hR S a0 3) fun b1 => lt_ (a2 - (2 : Int32)) fun z2 => wpX7_allBear ln S a0 b1 z2 fun z3 S => post z3 S))) else (BX7_behind_20 ln post S))))
abbrev rmX7_behind : Room := { frames := 6, cells := 0, slots := 0, locals := 143 }
set_option maxHeartbeats 4000000 in
set_option maxRecDepth 100000 in
theorem ctX7_behind {l : Launch} {g : GX} {N : Nat} {ln : Nat → Nat} {S : HC} {a0 : Nat} {a1 : Int32} {a2 : Int32} {post : Int32 → HC → Prop} (hr_a0 : a0 < N) (hk_a0 : kd a0 = 7) (h : wpX7_behind ln S a0 a1 a2 post) : Met l yX7_behind (Cond.code yX7_behind prog_1_method_18_code 3 (Option.some Jvm.ClassFile.FieldType.int) :: gtbl) rmX7_behind (va_Pc [.ref (gz g + a0), .int a1, .int a2] (AtP g N ln S)) (QI g N ln post) 0 0 (gF g) := by
  refine m_of (by decide) (Nat.le_of_ble_eq_true rfl) ?_
  intro p e s m below meth c ls F hr I hl
  have hl : lv_has ls 3 [(0, .ref (gz g + a0)), (1, .int a1), (2, .int a2)] := hl
  unfold wpX7_behind at h
  have hj_20 : ∀ (S : HC) (H : Heap) (locs : List Loc) (ls : Array Slot), BX7_behind_20 ln post S  → Inv g N ln S s H locs → lv_has ls 3 [] → W p l e rmX7_behind s m ([.ref (gz g + a0), .int a1, .int a2] : List Value).toArray below meth c H locs 0 0 (MQ below (QI g N ln post) ([.ref (gz g + a0), .int a1, .int a2] : List Value).toArray s 0 0 (gF g)) (F0 m 20 ls []) := by
    intro S H locs ls h I hl
    unfold BX7_behind_20 at h
    refine lv_ldc F.1 F.2.1 F.2.2.2.1 (F.2.2.2.2 _ tw_334) dX7_behind_20 ?_
    exact r_ireturn F I ⟨hr.1, hr.2.1, trivial⟩ h dX7_behind_22
  refine lv_iload_n F.1 F.2.1 dX7_behind_0 rfl (lv_at hl 1 rfl) ?_
  refine r_if_lt (tgt := 20) F dX7_behind_1 (by decide) h (fun h => ?_) (fun h => ?_)
  · exact hj_20 S _ _ _   h I (lv_sub hl [] rfl)
  · refine lv_iload_n F.1 F.2.1 dX7_behind_4 rfl (lv_at hl 1 rfl) ?_
    refine lv_bipush (v := 100) F.1 F.2.1 dX7_behind_5 (by decide) ?_
    refine r_icmp_gt (tgt := 20) F dX7_behind_7 (by decide) h (fun h => ?_) (fun h => ?_)
    · exact hj_20 S _ _ _   h I (lv_sub hl [] rfl)
    · refine lv_iload_n F.1 F.2.1 dX7_behind_10 rfl (lv_at hl 2 rfl) ?_
      refine r_if_lt (tgt := 20) F dX7_behind_11 (by decide) h (fun h => ?_) (fun h => ?_)
      · exact hj_20 S _ _ _   h I (lv_sub hl [] rfl)
      · refine lv_iload_n F.1 F.2.1 dX7_behind_14 rfl (lv_at hl 2 rfl) ?_
        refine lv_bipush (v := 9) F.1 F.2.1 dX7_behind_15 (by decide) ?_
        refine r_icmp_le (tgt := 23) F dX7_behind_17 (by decide) h (fun h => ?_) (fun h => ?_)
        · refine lv_aload_n F.1 F.2.1 dX7_behind_23 rfl (lv_at hl 0 rfl) ?_
          refine lv_iload_n F.1 F.2.1 dX7_behind_24 rfl (lv_at hl 1 rfl) ?_
          refine g_V I (run_V (As := [.int a1]) (rest := []) F I hr_a0 hk_a0 (by decide) kX7_188 (ctX7_think hr_a0 hk_a0 h) ⟨rfl, rfl⟩ ⟨Nat.le_of_ble_eq_true rfl, Nat.le_of_ble_eq_true rfl⟩ rfl hl.1 rfl (Nat.le_of_ble_eq_true rfl) ⟨Nat.le_of_ble_eq_true rfl, Nat.le_of_ble_eq_true rfl⟩ dX7_behind_25) (fun S H locs I h => ?_)
          refine lv_iload_n F.1 F.2.1 dX7_behind_28 rfl (lv_at hl 2 rfl) ?_
          refine r_if_ne (tgt := 40) F dX7_behind_29 (by decide) h (fun h => ?_) (fun h => ?_)
          · refine lv_iload_n F.1 F.2.1 dX7_behind_40 rfl (lv_at hl 2 rfl) ?_
            refine lv_iconst (v := 1) F.1 F.2.1 dX7_behind_41 (by decide) ?_
            refine r_icmp_ne (tgt := 64) F dX7_behind_42 (by decide) h (fun h => ?_) (fun h => ?_)
            · refine lv_aload_n F.1 F.2.1 dX7_behind_64 rfl (lv_at hl 0 rfl) ?_
              refine lv_aload_n F.1 F.2.1 dX7_behind_65 rfl (lv_at hl 0 rfl) ?_
              refine r_getN F I hr_a0 hk_a0 fX7_23 (f := 0) rfl (by decide) dX7_behind_66 h (fun b1 hr_b1 hk_b1 h => ?_)
              refine lv_iload_n F.1 F.2.1 dX7_behind_69 rfl (lv_at hl 2 rfl) ?_
              refine lv_iconst (v := 2) F.1 F.2.1 dX7_behind_70 (by decide) ?_
              refine r_isub F dX7_behind_71 h (fun z2 h => ?_)
              refine g_I I (run_V (As := [.ref (gz g + b1), .int z2]) (rest := []) F I hr_a0 hk_a0 (by decide) kX7_191 (ctX7_allBear hr_a0 hk_a0 hr_b1 hk_b1 h) ⟨rfl, rfl⟩ ⟨Nat.le_of_ble_eq_true rfl, Nat.le_of_ble_eq_true rfl⟩ rfl hl.1 rfl (Nat.le_of_ble_eq_true rfl) ⟨Nat.le_of_ble_eq_true rfl, Nat.le_of_ble_eq_true rfl⟩ dX7_behind_72) (fun z3 S H locs I h => ?_)
              exact r_ireturn F I ⟨hr.1, hr.2.1, trivial⟩ h dX7_behind_75
            · refine lv_aload_n F.1 F.2.1 dX7_behind_45 rfl (lv_at hl 0 rfl) ?_
              refine r_getN F I hr_a0 hk_a0 fX7_29 (f := 4) rfl (by decide) dX7_behind_46 h (fun b4 hr_b4 hk_b4 h => ?_)
              refine lv_aload_n F.1 F.2.1 dX7_behind_49 rfl (lv_at hl 0 rfl) ?_
              refine r_getN F I hr_a0 hk_a0 fX7_23 (f := 0) rfl (by decide) dX7_behind_50 h (fun b5 hr_b5 hk_b5 h => ?_)
              refine g_V I (run_V (As := [.ref (gz g + b5)]) (rest := []) F I hr_b4 hk_b4 (by decide) kX7_149 (ctX4_workOutAll hr_b4 hk_b4 hr_b5 hk_b5 h) ⟨rfl, rfl⟩ ⟨Nat.le_of_ble_eq_true rfl, Nat.le_of_ble_eq_true rfl⟩ rfl hl.1 rfl (Nat.le_of_ble_eq_true rfl) ⟨Nat.le_of_ble_eq_true rfl, Nat.le_of_ble_eq_true rfl⟩ dX7_behind_53) (fun S H locs I h => ?_)
              refine lv_aload_n F.1 F.2.1 dX7_behind_56 rfl (lv_at hl 0 rfl) ?_
              refine r_getN F I hr_a0 hk_a0 fX7_29 (f := 4) rfl (by decide) dX7_behind_57 h (fun b6 hr_b6 hk_b6 h => ?_)
              refine g_I I (run_V (As := []) (rest := []) F I hr_b6 hk_b6 (by decide) kX7_156 (ctX4_clashes hr_b6 hk_b6 h) ⟨rfl, rfl⟩ ⟨Nat.le_of_ble_eq_true rfl, Nat.le_of_ble_eq_true rfl⟩ rfl hl.1 rfl (Nat.le_of_ble_eq_true rfl) ⟨Nat.le_of_ble_eq_true rfl, Nat.le_of_ble_eq_true rfl⟩ dX7_behind_60) (fun z7 S H locs I h => ?_)
              exact r_ireturn F I ⟨hr.1, hr.2.1, trivial⟩ h dX7_behind_63
          · refine lv_aload_n F.1 F.2.1 dX7_behind_32 rfl (lv_at hl 0 rfl) ?_
            refine r_getN F I hr_a0 hk_a0 fX7_23 (f := 0) rfl (by decide) dX7_behind_33 h (fun b8 hr_b8 hk_b8 h => ?_)
            refine r_getI F I hr_b8 hk_b8 fX7_174 rfl dX7_behind_36 h (fun z9 h => ?_)
            exact r_ireturn F I ⟨hr.1, hr.2.1, trivial⟩ h dX7_behind_39
        · exact hj_20 S _ _ _   h I (lv_sub hl [] rfl)
theorem bdX7_born_0 : ∀ q ∈ ([(0, .aload_n 0, 1), (1, .getfield 23, 3), (4, .aload_n 0, 1), (5, .getfield 10, 3), (8, .invokevirtual 181, 3), (11, .iconst 1, 1), (12, .istore_n 1, 1), (13, .iload_n 1, 1), (14, .sipush 200, 3), (17, .if_icmp .gt 21, 3), (20, .aload_n 0, 1), (21, .getfield 23, 3), (24, .invokevirtual 146, 3), (27, .ifCond .eq 5, 3), (30, .iload_n 1, 1), (31, .ireturn, 1), (32, .iinc 1 1, 3), (35, .goto (-22), 3), (38, .ldc 173, 2), (40, .ireturn, 1)] : List (Nat × Jvm.ClassFile.Instr × Nat)), decode cX7_born q.1 = .ok q.2 := chk_ok _ 0 _ rfl (by decide +kernel)
theorem dX7_born_0 : decode cX7_born 0 = .ok (.aload_n 0, 1) := bdX7_born_0 (0, .aload_n 0, 1) (List.mem_of_getElem? (i := 0) rfl)
theorem dX7_born_1 : decode cX7_born 1 = .ok (.getfield 23, 3) := bdX7_born_0 (1, .getfield 23, 3) (List.mem_of_getElem? (i := 1) rfl)
theorem dX7_born_4 : decode cX7_born 4 = .ok (.aload_n 0, 1) := bdX7_born_0 (4, .aload_n 0, 1) (List.mem_of_getElem? (i := 2) rfl)
theorem dX7_born_5 : decode cX7_born 5 = .ok (.getfield 10, 3) := bdX7_born_0 (5, .getfield 10, 3) (List.mem_of_getElem? (i := 3) rfl)
theorem dX7_born_8 : decode cX7_born 8 = .ok (.invokevirtual 181, 3) := bdX7_born_0 (8, .invokevirtual 181, 3) (List.mem_of_getElem? (i := 4) rfl)
theorem dX7_born_11 : decode cX7_born 11 = .ok (.iconst 1, 1) := bdX7_born_0 (11, .iconst 1, 1) (List.mem_of_getElem? (i := 5) rfl)
theorem dX7_born_12 : decode cX7_born 12 = .ok (.istore_n 1, 1) := bdX7_born_0 (12, .istore_n 1, 1) (List.mem_of_getElem? (i := 6) rfl)
theorem dX7_born_13 : decode cX7_born 13 = .ok (.iload_n 1, 1) := bdX7_born_0 (13, .iload_n 1, 1) (List.mem_of_getElem? (i := 7) rfl)
theorem dX7_born_14 : decode cX7_born 14 = .ok (.sipush 200, 3) := bdX7_born_0 (14, .sipush 200, 3) (List.mem_of_getElem? (i := 8) rfl)
theorem dX7_born_17 : decode cX7_born 17 = .ok (.if_icmp .gt 21, 3) := bdX7_born_0 (17, .if_icmp .gt 21, 3) (List.mem_of_getElem? (i := 9) rfl)
theorem dX7_born_20 : decode cX7_born 20 = .ok (.aload_n 0, 1) := bdX7_born_0 (20, .aload_n 0, 1) (List.mem_of_getElem? (i := 10) rfl)
theorem dX7_born_21 : decode cX7_born 21 = .ok (.getfield 23, 3) := bdX7_born_0 (21, .getfield 23, 3) (List.mem_of_getElem? (i := 11) rfl)
theorem dX7_born_24 : decode cX7_born 24 = .ok (.invokevirtual 146, 3) := bdX7_born_0 (24, .invokevirtual 146, 3) (List.mem_of_getElem? (i := 12) rfl)
theorem dX7_born_27 : decode cX7_born 27 = .ok (.ifCond .eq 5, 3) := bdX7_born_0 (27, .ifCond .eq 5, 3) (List.mem_of_getElem? (i := 13) rfl)
theorem dX7_born_30 : decode cX7_born 30 = .ok (.iload_n 1, 1) := bdX7_born_0 (30, .iload_n 1, 1) (List.mem_of_getElem? (i := 14) rfl)
theorem dX7_born_31 : decode cX7_born 31 = .ok (.ireturn, 1) := bdX7_born_0 (31, .ireturn, 1) (List.mem_of_getElem? (i := 15) rfl)
theorem dX7_born_32 : decode cX7_born 32 = .ok (.iinc 1 1, 3) := bdX7_born_0 (32, .iinc 1 1, 3) (List.mem_of_getElem? (i := 16) rfl)
theorem dX7_born_35 : decode cX7_born 35 = .ok (.goto (-22), 3) := bdX7_born_0 (35, .goto (-22), 3) (List.mem_of_getElem? (i := 17) rfl)
theorem dX7_born_38 : decode cX7_born 38 = .ok (.ldc 173, 2) := bdX7_born_0 (38, .ldc 173, 2) (List.mem_of_getElem? (i := 18) rfl)
theorem dX7_born_40 : decode cX7_born 40 = .ok (.ireturn, 1) := bdX7_born_0 (40, .ireturn, 1) (List.mem_of_getElem? (i := 19) rfl)
def LX7_born_13 (ln : Nat → Nat) (post : Int32 → HC → Prop) : Nat → HC → Nat → Int32 → Prop
  | 0 => fun _ _ _ => False
  | n13 + 1 => fun S x0 x1 => if (200 : Int32) < x1 then (post (-1000000005 : Int32) S) else (dn_ (hR S x0 3) fun b1 => wpX0_passYear ln S b1 fun z2 S => if z2 = 0 then (lt_ (x1 + (1 : Int32)) fun z3 => (LX7_born_13 ln post n13) S x0 z3) else (post x1 S))
def wpX7_born (ln : Nat → Nat) (S : HC) (a0 : Nat) (post : Int32 → HC → Prop) : Prop := dn_ (hR S a0 3) fun b4 => dn_ (hR S a0 0) fun b5 => wpX0_become ln S b4 b5 fun S => ∃ n13, LX7_born_13 ln post n13 S a0 (1 : Int32)
abbrev rmX7_born : Room := { frames := 4, cells := 0, slots := 0, locals := 93 }
set_option maxHeartbeats 4000000 in
set_option maxRecDepth 100000 in
theorem ctX7_born {l : Launch} {g : GX} {N : Nat} {ln : Nat → Nat} {S : HC} {a0 : Nat} {post : Int32 → HC → Prop} (hr_a0 : a0 < N) (hk_a0 : kd a0 = 7) (h : wpX7_born ln S a0 post) : Met l yX7_born (Cond.code yX7_born prog_1_method_19_code 2 (Option.some Jvm.ClassFile.FieldType.int) :: gtbl) rmX7_born (va_Pc [.ref (gz g + a0)] (AtP g N ln S)) (QI g N ln post) 0 0 (gF g) := by
  refine m_of (by decide) (Nat.le_of_ble_eq_true rfl) ?_
  intro p e s m below meth c ls F hr I hl
  have hl : lv_has ls 2 [(0, .ref (gz g + a0))] := hl
  unfold wpX7_born at h
  have hl_13 : ∀ n13 : Nat, ∀ (S : HC) (H : Heap) (locs : List Loc) (ls : Array Slot) (x0 : Nat) (x1 : Int32), x0 < N → kd x0 = 7 → LX7_born_13 ln post n13 S x0 x1 → Inv g N ln S s H locs → lv_has ls 2 [(0, .ref (gz g + x0)), (1, .int x1)] → W p l e rmX7_born s m ([.ref (gz g + a0)] : List Value).toArray below meth c H locs 0 0 (MQ below (QI g N ln post) ([.ref (gz g + a0)] : List Value).toArray s 0 0 (gF g)) (F0 m 13 ls []) := by
    intro n13
    induction n13 with
    | zero =>
      intro S H locs ls x0 x1 hr_x0 hk_x0 h I hl
      exact h.elim
    | succ n13 ih =>
      have hk13 := ih
      intro S H locs ls x0 x1 hr_x0 hk_x0 h I hl
      rw [LX7_born_13] at h
      refine lv_iload_n F.1 F.2.1 dX7_born_13 rfl (lv_at hl 1 rfl) ?_
      refine lv_sipush (v := 200) F.1 F.2.1 dX7_born_14 (by decide) ?_
      refine r_icmp_gt (tgt := 38) F dX7_born_17 (by decide) h (fun h => ?_) (fun h => ?_)
      · refine lv_ldc F.1 F.2.1 F.2.2.2.1 (F.2.2.2.2 _ tw_534) dX7_born_38 ?_
        exact r_ireturn F I ⟨hr.1, hr.2.1, trivial⟩ h dX7_born_40
      · refine lv_aload_n F.1 F.2.1 dX7_born_20 rfl (lv_at hl 0 rfl) ?_
        refine r_getN F I hr_x0 hk_x0 fX7_23 (f := 0) rfl (by decide) dX7_born_21 h (fun b1 hr_b1 hk_b1 h => ?_)
        refine g_I I (run_V (As := []) (rest := []) F I hr_b1 hk_b1 (by decide) kX7_146 (ctX0_passYear hr_b1 hk_b1 h) ⟨rfl, rfl⟩ ⟨Nat.le_of_ble_eq_true rfl, Nat.le_of_ble_eq_true rfl⟩ rfl hl.1 rfl (Nat.le_of_ble_eq_true rfl) ⟨Nat.le_of_ble_eq_true rfl, Nat.le_of_ble_eq_true rfl⟩ dX7_born_24) (fun z2 S H locs I h => ?_)
        refine r_if_eq (tgt := 32) F dX7_born_27 (by decide) h (fun h => ?_) (fun h => ?_)
        · obtain ⟨z3, e_z3, h⟩ := lt_x h
          refine lv_iinc (v := z3) (lv' := [(1, .int z3), (0, .ref (gz g + x0))]) F.1 F.2.1 dX7_born_32 hl (k := 1) rfl (by rw [e_z3]; rfl) (by decide) rfl (fun ls hl => ?_)
          refine lv_goto (tgt := 13) F.1 F.2.1 dX7_born_35 (by decide) ?_
          exact hk13 S _ _ _ x0 z3 hr_x0 hk_x0 h I (lv_sub hl [1, 0] rfl)
        · refine lv_iload_n F.1 F.2.1 dX7_born_30 rfl (lv_at hl 1 rfl) ?_
          exact r_ireturn F I ⟨hr.1, hr.2.1, trivial⟩ h dX7_born_31
  refine lv_aload_n F.1 F.2.1 dX7_born_0 rfl (lv_at hl 0 rfl) ?_
  refine r_getN F I hr_a0 hk_a0 fX7_23 (f := 0) rfl (by decide) dX7_born_1 h (fun b4 hr_b4 hk_b4 h => ?_)
  refine lv_aload_n F.1 F.2.1 dX7_born_4 rfl (lv_at hl 0 rfl) ?_
  refine r_getN F I hr_a0 hk_a0 fX7_10 (f := 0) rfl (by decide) dX7_born_5 h (fun b5 hr_b5 hk_b5 h => ?_)
  refine g_V I (run_V (As := [.ref (gz g + b5)]) (rest := []) F I hr_b4 hk_b4 (by decide) kX7_181 (ctX0_become hr_b4 hk_b4 hr_b5 hk_b5 h) ⟨rfl, rfl⟩ ⟨Nat.le_of_ble_eq_true rfl, Nat.le_of_ble_eq_true rfl⟩ rfl hl.1 rfl (Nat.le_of_ble_eq_true rfl) ⟨Nat.le_of_ble_eq_true rfl, Nat.le_of_ble_eq_true rfl⟩ dX7_born_8) (fun S H locs I h => ?_)
  refine lv_iconst (v := 1) F.1 F.2.1 dX7_born_11 (by decide) ?_
  refine lv_istore_n (lv' := [(1, .int (1 : Int32)), (0, .ref (gz g + a0))]) F.1 F.2.1 dX7_born_12 rfl hl (by decide) rfl (fun ls hl => ?_)
  obtain ⟨n13, h⟩ := h
  exact hl_13 n13 S _ _ _ a0 (1 : Int32) hr_a0 hk_a0 h I (lv_sub hl [1, 0] rfl)
theorem bdX7_gone_0 : ∀ q ∈ ([(0, .iload_n 1, 1), (1, .ifCond .lt 18, 3), (4, .iload_n 1, 1), (5, .bipush 60, 2), (7, .if_icmp .gt 12, 3), (10, .iload_n 2, 1), (11, .ifCond .lt 8, 3), (14, .iload_n 2, 1), (15, .iconst 1, 1), (16, .if_icmp .le 6, 3), (19, .ldc 73, 2), (21, .ireturn, 1), (22, .aload_n 0, 1), (23, .iload_n 1, 1), (24, .invokevirtual 188, 3), (27, .aload_n 0, 1), (28, .getfield 29, 3), (31, .aload_n 0, 1), (32, .getfield 23, 3), (35, .invokevirtual 149, 3), (38, .iconst 0, 1), (39, .istore_n 3, 1), (40, .bipush 15, 2), (42, .istore 4, 2), (44, .iconst 0, 1), (45, .istore 5, 2), (47, .iload 5, 2), (49, .bipush 8, 2), (51, .if_icmp .ge 38, 3), (54, .aload_n 0, 1), (55, .getfield 29, 3), (58, .iload 5, 2), (60, .iconst 1, 1), (61, .invokevirtual 167, 3), (64, .invokestatic 195, 3), (67, .istore 6, 2), (69, .iload 6, 2), (71, .iload 4, 2), (73, .if_icmp .ge 10, 3), (76, .iload 5, 2)] : List (Nat × Jvm.ClassFile.Instr × Nat)), decode cX7_gone q.1 = .ok q.2 := chk_ok _ 0 _ rfl (by decide +kernel)
theorem dX7_gone_0 : decode cX7_gone 0 = .ok (.iload_n 1, 1) := bdX7_gone_0 (0, .iload_n 1, 1) (List.mem_of_getElem? (i := 0) rfl)
theorem dX7_gone_1 : decode cX7_gone 1 = .ok (.ifCond .lt 18, 3) := bdX7_gone_0 (1, .ifCond .lt 18, 3) (List.mem_of_getElem? (i := 1) rfl)
theorem dX7_gone_4 : decode cX7_gone 4 = .ok (.iload_n 1, 1) := bdX7_gone_0 (4, .iload_n 1, 1) (List.mem_of_getElem? (i := 2) rfl)
theorem dX7_gone_5 : decode cX7_gone 5 = .ok (.bipush 60, 2) := bdX7_gone_0 (5, .bipush 60, 2) (List.mem_of_getElem? (i := 3) rfl)
theorem dX7_gone_7 : decode cX7_gone 7 = .ok (.if_icmp .gt 12, 3) := bdX7_gone_0 (7, .if_icmp .gt 12, 3) (List.mem_of_getElem? (i := 4) rfl)
theorem dX7_gone_10 : decode cX7_gone 10 = .ok (.iload_n 2, 1) := bdX7_gone_0 (10, .iload_n 2, 1) (List.mem_of_getElem? (i := 5) rfl)
theorem dX7_gone_11 : decode cX7_gone 11 = .ok (.ifCond .lt 8, 3) := bdX7_gone_0 (11, .ifCond .lt 8, 3) (List.mem_of_getElem? (i := 6) rfl)
theorem dX7_gone_14 : decode cX7_gone 14 = .ok (.iload_n 2, 1) := bdX7_gone_0 (14, .iload_n 2, 1) (List.mem_of_getElem? (i := 7) rfl)
theorem dX7_gone_15 : decode cX7_gone 15 = .ok (.iconst 1, 1) := bdX7_gone_0 (15, .iconst 1, 1) (List.mem_of_getElem? (i := 8) rfl)
theorem dX7_gone_16 : decode cX7_gone 16 = .ok (.if_icmp .le 6, 3) := bdX7_gone_0 (16, .if_icmp .le 6, 3) (List.mem_of_getElem? (i := 9) rfl)
theorem dX7_gone_19 : decode cX7_gone 19 = .ok (.ldc 73, 2) := bdX7_gone_0 (19, .ldc 73, 2) (List.mem_of_getElem? (i := 10) rfl)
theorem dX7_gone_21 : decode cX7_gone 21 = .ok (.ireturn, 1) := bdX7_gone_0 (21, .ireturn, 1) (List.mem_of_getElem? (i := 11) rfl)
theorem dX7_gone_22 : decode cX7_gone 22 = .ok (.aload_n 0, 1) := bdX7_gone_0 (22, .aload_n 0, 1) (List.mem_of_getElem? (i := 12) rfl)
theorem dX7_gone_23 : decode cX7_gone 23 = .ok (.iload_n 1, 1) := bdX7_gone_0 (23, .iload_n 1, 1) (List.mem_of_getElem? (i := 13) rfl)
theorem dX7_gone_24 : decode cX7_gone 24 = .ok (.invokevirtual 188, 3) := bdX7_gone_0 (24, .invokevirtual 188, 3) (List.mem_of_getElem? (i := 14) rfl)
theorem dX7_gone_27 : decode cX7_gone 27 = .ok (.aload_n 0, 1) := bdX7_gone_0 (27, .aload_n 0, 1) (List.mem_of_getElem? (i := 15) rfl)
theorem dX7_gone_28 : decode cX7_gone 28 = .ok (.getfield 29, 3) := bdX7_gone_0 (28, .getfield 29, 3) (List.mem_of_getElem? (i := 16) rfl)
theorem dX7_gone_31 : decode cX7_gone 31 = .ok (.aload_n 0, 1) := bdX7_gone_0 (31, .aload_n 0, 1) (List.mem_of_getElem? (i := 17) rfl)
theorem dX7_gone_32 : decode cX7_gone 32 = .ok (.getfield 23, 3) := bdX7_gone_0 (32, .getfield 23, 3) (List.mem_of_getElem? (i := 18) rfl)
theorem dX7_gone_35 : decode cX7_gone 35 = .ok (.invokevirtual 149, 3) := bdX7_gone_0 (35, .invokevirtual 149, 3) (List.mem_of_getElem? (i := 19) rfl)
theorem dX7_gone_38 : decode cX7_gone 38 = .ok (.iconst 0, 1) := bdX7_gone_0 (38, .iconst 0, 1) (List.mem_of_getElem? (i := 20) rfl)
theorem dX7_gone_39 : decode cX7_gone 39 = .ok (.istore_n 3, 1) := bdX7_gone_0 (39, .istore_n 3, 1) (List.mem_of_getElem? (i := 21) rfl)
theorem dX7_gone_40 : decode cX7_gone 40 = .ok (.bipush 15, 2) := bdX7_gone_0 (40, .bipush 15, 2) (List.mem_of_getElem? (i := 22) rfl)
theorem dX7_gone_42 : decode cX7_gone 42 = .ok (.istore 4, 2) := bdX7_gone_0 (42, .istore 4, 2) (List.mem_of_getElem? (i := 23) rfl)
theorem dX7_gone_44 : decode cX7_gone 44 = .ok (.iconst 0, 1) := bdX7_gone_0 (44, .iconst 0, 1) (List.mem_of_getElem? (i := 24) rfl)
theorem dX7_gone_45 : decode cX7_gone 45 = .ok (.istore 5, 2) := bdX7_gone_0 (45, .istore 5, 2) (List.mem_of_getElem? (i := 25) rfl)
theorem dX7_gone_47 : decode cX7_gone 47 = .ok (.iload 5, 2) := bdX7_gone_0 (47, .iload 5, 2) (List.mem_of_getElem? (i := 26) rfl)
theorem dX7_gone_49 : decode cX7_gone 49 = .ok (.bipush 8, 2) := bdX7_gone_0 (49, .bipush 8, 2) (List.mem_of_getElem? (i := 27) rfl)
theorem dX7_gone_51 : decode cX7_gone 51 = .ok (.if_icmp .ge 38, 3) := bdX7_gone_0 (51, .if_icmp .ge 38, 3) (List.mem_of_getElem? (i := 28) rfl)
theorem dX7_gone_54 : decode cX7_gone 54 = .ok (.aload_n 0, 1) := bdX7_gone_0 (54, .aload_n 0, 1) (List.mem_of_getElem? (i := 29) rfl)
theorem dX7_gone_55 : decode cX7_gone 55 = .ok (.getfield 29, 3) := bdX7_gone_0 (55, .getfield 29, 3) (List.mem_of_getElem? (i := 30) rfl)
theorem dX7_gone_58 : decode cX7_gone 58 = .ok (.iload 5, 2) := bdX7_gone_0 (58, .iload 5, 2) (List.mem_of_getElem? (i := 31) rfl)
theorem dX7_gone_60 : decode cX7_gone 60 = .ok (.iconst 1, 1) := bdX7_gone_0 (60, .iconst 1, 1) (List.mem_of_getElem? (i := 32) rfl)
theorem dX7_gone_61 : decode cX7_gone 61 = .ok (.invokevirtual 167, 3) := bdX7_gone_0 (61, .invokevirtual 167, 3) (List.mem_of_getElem? (i := 33) rfl)
theorem dX7_gone_64 : decode cX7_gone 64 = .ok (.invokestatic 195, 3) := bdX7_gone_0 (64, .invokestatic 195, 3) (List.mem_of_getElem? (i := 34) rfl)
theorem dX7_gone_67 : decode cX7_gone 67 = .ok (.istore 6, 2) := bdX7_gone_0 (67, .istore 6, 2) (List.mem_of_getElem? (i := 35) rfl)
theorem dX7_gone_69 : decode cX7_gone 69 = .ok (.iload 6, 2) := bdX7_gone_0 (69, .iload 6, 2) (List.mem_of_getElem? (i := 36) rfl)
theorem dX7_gone_71 : decode cX7_gone 71 = .ok (.iload 4, 2) := bdX7_gone_0 (71, .iload 4, 2) (List.mem_of_getElem? (i := 37) rfl)
theorem dX7_gone_73 : decode cX7_gone 73 = .ok (.if_icmp .ge 10, 3) := bdX7_gone_0 (73, .if_icmp .ge 10, 3) (List.mem_of_getElem? (i := 38) rfl)
theorem dX7_gone_76 : decode cX7_gone 76 = .ok (.iload 5, 2) := bdX7_gone_0 (76, .iload 5, 2) (List.mem_of_getElem? (i := 39) rfl)
theorem bdX7_gone_78 : ∀ q ∈ ([(78, .istore_n 3, 1), (79, .iload 6, 2), (81, .istore 4, 2), (83, .iinc 5 1, 3), (86, .goto (-39), 3), (89, .iload_n 2, 1), (90, .ifCond .ne 7, 3), (93, .iload_n 3, 1), (94, .goto 5, 3), (97, .iload 4, 2), (99, .ireturn, 1)] : List (Nat × Jvm.ClassFile.Instr × Nat)), decode cX7_gone q.1 = .ok q.2 := chk_ok _ 78 _ rfl (by decide +kernel)
theorem dX7_gone_78 : decode cX7_gone 78 = .ok (.istore_n 3, 1) := bdX7_gone_78 (78, .istore_n 3, 1) (List.mem_of_getElem? (i := 0) rfl)
theorem dX7_gone_79 : decode cX7_gone 79 = .ok (.iload 6, 2) := bdX7_gone_78 (79, .iload 6, 2) (List.mem_of_getElem? (i := 1) rfl)
theorem dX7_gone_81 : decode cX7_gone 81 = .ok (.istore 4, 2) := bdX7_gone_78 (81, .istore 4, 2) (List.mem_of_getElem? (i := 2) rfl)
theorem dX7_gone_83 : decode cX7_gone 83 = .ok (.iinc 5 1, 3) := bdX7_gone_78 (83, .iinc 5 1, 3) (List.mem_of_getElem? (i := 3) rfl)
theorem dX7_gone_86 : decode cX7_gone 86 = .ok (.goto (-39), 3) := bdX7_gone_78 (86, .goto (-39), 3) (List.mem_of_getElem? (i := 4) rfl)
theorem dX7_gone_89 : decode cX7_gone 89 = .ok (.iload_n 2, 1) := bdX7_gone_78 (89, .iload_n 2, 1) (List.mem_of_getElem? (i := 5) rfl)
theorem dX7_gone_90 : decode cX7_gone 90 = .ok (.ifCond .ne 7, 3) := bdX7_gone_78 (90, .ifCond .ne 7, 3) (List.mem_of_getElem? (i := 6) rfl)
theorem dX7_gone_93 : decode cX7_gone 93 = .ok (.iload_n 3, 1) := bdX7_gone_78 (93, .iload_n 3, 1) (List.mem_of_getElem? (i := 7) rfl)
theorem dX7_gone_94 : decode cX7_gone 94 = .ok (.goto 5, 3) := bdX7_gone_78 (94, .goto 5, 3) (List.mem_of_getElem? (i := 8) rfl)
theorem dX7_gone_97 : decode cX7_gone 97 = .ok (.iload 4, 2) := bdX7_gone_78 (97, .iload 4, 2) (List.mem_of_getElem? (i := 9) rfl)
theorem dX7_gone_99 : decode cX7_gone 99 = .ok (.ireturn, 1) := bdX7_gone_78 (99, .ireturn, 1) (List.mem_of_getElem? (i := 10) rfl)
theorem kX7_195 : mthS RX7 195 yJ6_bitCount_0f7a4 prog_12_method_49_code 1 (Option.some Jvm.ClassFile.FieldType.int) 1 := ⟨⟨⟨tw_576, tw_70, tw_578⟩, rfl, by decide +kernel⟩, tw_577⟩
def BX7_gone_83 (ln : Nat → Nat) (post : Int32 → HC → Prop) (K47 : HC → Nat → Int32 → Int32 → Int32 → Int32 → Prop) (S : HC) (x0 : Nat) (x2 : Int32) (x3 : Int32) (x4 : Int32) (x5 : Int32) : Prop := lt_ (x5 + (1 : Int32)) fun z1 => K47 S x0 x2 x3 x4 z1
def LX7_gone_47 (ln : Nat → Nat) (post : Int32 → HC → Prop) : Nat → HC → Nat → Int32 → Int32 → Int32 → Int32 → Prop
  | 0 => fun _ _ _ _ _ _ => False
  | n47 + 1 => fun S x0 x2 x3 x4 x5 => if (8 : Int32) ≤ x5 then (if x2 = 0 then (post x3 S) else (post x4 S)) else (dn_ (hR S x0 4) fun b2 => wpX4_bearersOf ln S b2 x5 (1 : Int32) fun z3 S => wpJ6_bitCount_0f7a4 ln S z3 fun z4 S => if x4 ≤ z4 then (BX7_gone_83 ln post (LX7_gone_47 ln post n47) S x0 x2 x3 x4 x5) else (BX7_gone_83 ln post (LX7_gone_47 ln post n47) S x0 x2 x5 z4 x5))
def BX7_gone_19 (ln : Nat → Nat) (post : Int32 → HC → Prop) (S : HC)  : Prop := post (-1000000001 : Int32) S
def wpX7_gone (ln : Nat → Nat) (S : HC) (a0 : Nat) (a1 : Int32) (a2 : Int32) (post : Int32 → HC → Prop) : Prop := if a1 < 0 then (BX7_gone_19 ln post S) else (if (60 : Int32) < a1 then (BX7_gone_19 ln post S) else (if a2 < 0 then (BX7_gone_19 ln post S) else (if a2 ≤ (1 : Int32) then (wpX7_think ln S a0 a1 fun S => dn_ (hR S a0 4) fun b5 => dn_ (hR S a0 3) fun b6 => wpX4_workOutAll ln S b5 b6 fun S => ∃ n47, LX7_gone_47 ln post n47 S a0 a2 (0 : Int32) (15 : Int32) (0 : Int32)) else (BX7_gone_19 ln post S))))
abbrev rmX7_gone : Room := { frames := 6, cells := 0, slots := 0, locals := 143 }
set_option maxHeartbeats 4000000 in
set_option maxRecDepth 100000 in
theorem ctX7_gone {l : Launch} {g : GX} {N : Nat} {ln : Nat → Nat} {S : HC} {a0 : Nat} {a1 : Int32} {a2 : Int32} {post : Int32 → HC → Prop} (hr_a0 : a0 < N) (hk_a0 : kd a0 = 7) (h : wpX7_gone ln S a0 a1 a2 post) : Met l yX7_gone (Cond.code yX7_gone prog_1_method_20_code 7 (Option.some Jvm.ClassFile.FieldType.int) :: gtbl) rmX7_gone (va_Pc [.ref (gz g + a0), .int a1, .int a2] (AtP g N ln S)) (QI g N ln post) 0 0 (gF g) := by
  refine m_of (by decide) (Nat.le_of_ble_eq_true rfl) ?_
  intro p e s m below meth c ls F hr I hl
  have hl : lv_has ls 7 [(0, .ref (gz g + a0)), (1, .int a1), (2, .int a2)] := hl
  unfold wpX7_gone at h
  have hl_47 : ∀ n47 : Nat, ∀ (S : HC) (H : Heap) (locs : List Loc) (ls : Array Slot) (x0 : Nat) (x2 : Int32) (x3 : Int32) (x4 : Int32) (x5 : Int32), x0 < N → kd x0 = 7 → LX7_gone_47 ln post n47 S x0 x2 x3 x4 x5 → Inv g N ln S s H locs → lv_has ls 7 [(0, .ref (gz g + x0)), (2, .int x2), (3, .int x3), (4, .int x4), (5, .int x5)] → W p l e rmX7_gone s m ([.ref (gz g + a0), .int a1, .int a2] : List Value).toArray below meth c H locs 0 0 (MQ below (QI g N ln post) ([.ref (gz g + a0), .int a1, .int a2] : List Value).toArray s 0 0 (gF g)) (F0 m 47 ls []) := by
    intro n47
    induction n47 with
    | zero =>
      intro S H locs ls x0 x2 x3 x4 x5 hr_x0 hk_x0 h I hl
      exact h.elim
    | succ n47 ih =>
      have hk47 := ih
      have hj_83 : ∀ (S : HC) (H : Heap) (locs : List Loc) (ls : Array Slot) (x0 : Nat) (x2 : Int32) (x3 : Int32) (x4 : Int32) (x5 : Int32), x0 < N → kd x0 = 7 → BX7_gone_83 ln post (LX7_gone_47 ln post n47) S x0 x2 x3 x4 x5 → Inv g N ln S s H locs → lv_has ls 7 [(0, .ref (gz g + x0)), (2, .int x2), (3, .int x3), (4, .int x4), (5, .int x5)] → W p l e rmX7_gone s m ([.ref (gz g + a0), .int a1, .int a2] : List Value).toArray below meth c H locs 0 0 (MQ below (QI g N ln post) ([.ref (gz g + a0), .int a1, .int a2] : List Value).toArray s 0 0 (gF g)) (F0 m 83 ls []) := by
        intro S H locs ls x0 x2 x3 x4 x5 hr_x0 hk_x0 h I hl
        unfold BX7_gone_83 at h
        obtain ⟨z1, e_z1, h⟩ := lt_x h
        refine lv_iinc (v := z1) (lv' := [(5, .int z1), (0, .ref (gz g + x0)), (2, .int x2), (3, .int x3), (4, .int x4)]) F.1 F.2.1 dX7_gone_83 hl (k := 4) rfl (by rw [e_z1]; rfl) (by decide) rfl (fun ls hl => ?_)
        refine lv_goto (tgt := 47) F.1 F.2.1 dX7_gone_86 (by decide) ?_
        exact hk47 S _ _ _ x0 x2 x3 x4 z1 hr_x0 hk_x0 h I (lv_sub hl [1, 2, 3, 4, 0] rfl)
      intro S H locs ls x0 x2 x3 x4 x5 hr_x0 hk_x0 h I hl
      rw [LX7_gone_47] at h
      refine lv_iload F.1 F.2.1 dX7_gone_47 (lv_at hl 4 rfl) ?_
      refine lv_bipush (v := 8) F.1 F.2.1 dX7_gone_49 (by decide) ?_
      refine r_icmp_ge (tgt := 89) F dX7_gone_51 (by decide) h (fun h => ?_) (fun h => ?_)
      · refine lv_iload_n F.1 F.2.1 dX7_gone_89 rfl (lv_at hl 1 rfl) ?_
        refine r_if_ne (tgt := 97) F dX7_gone_90 (by decide) h (fun h => ?_) (fun h => ?_)
        · refine lv_iload F.1 F.2.1 dX7_gone_97 (lv_at hl 3 rfl) ?_
          exact r_ireturn F I ⟨hr.1, hr.2.1, trivial⟩ h dX7_gone_99
        · refine lv_iload_n F.1 F.2.1 dX7_gone_93 rfl (lv_at hl 2 rfl) ?_
          refine lv_goto (tgt := 99) F.1 F.2.1 dX7_gone_94 (by decide) ?_
          exact r_ireturn F I ⟨hr.1, hr.2.1, trivial⟩ h dX7_gone_99
      · refine lv_aload_n F.1 F.2.1 dX7_gone_54 rfl (lv_at hl 0 rfl) ?_
        refine r_getN F I hr_x0 hk_x0 fX7_29 (f := 4) rfl (by decide) dX7_gone_55 h (fun b2 hr_b2 hk_b2 h => ?_)
        refine lv_iload F.1 F.2.1 dX7_gone_58 (lv_at hl 4 rfl) ?_
        refine lv_iconst (v := 1) F.1 F.2.1 dX7_gone_60 (by decide) ?_
        refine g_I I (run_V (As := [.int x5, .int (1 : Int32)]) (rest := []) F I hr_b2 hk_b2 (by decide) kX7_167 (ctX4_bearersOf hr_b2 hk_b2 h) ⟨rfl, rfl⟩ ⟨Nat.le_of_ble_eq_true rfl, Nat.le_of_ble_eq_true rfl⟩ rfl hl.1 rfl (Nat.le_of_ble_eq_true rfl) ⟨Nat.le_of_ble_eq_true rfl, Nat.le_of_ble_eq_true rfl⟩ dX7_gone_61) (fun z3 S H locs I h => ?_)
        refine g_I I (run_S (As := [.int z3]) (rest := []) F I kX7_195 (ctJ6_bitCount_0f7a4 h) ⟨rfl, rfl⟩ ⟨Nat.le_of_ble_eq_true rfl, Nat.le_of_ble_eq_true rfl⟩ rfl hl.1 rfl (Nat.le_of_ble_eq_true rfl) ⟨Nat.le_of_ble_eq_true rfl, Nat.le_of_ble_eq_true rfl⟩ dX7_gone_64) (fun z4 S H locs I h => ?_)
        refine lv_istore (lv' := [(6, .int z4), (0, .ref (gz g + x0)), (2, .int x2), (3, .int x3), (4, .int x4), (5, .int x5)]) F.1 F.2.1 dX7_gone_67 hl (by decide) rfl (fun ls hl => ?_)
        refine lv_iload F.1 F.2.1 dX7_gone_69 (lv_at hl 0 rfl) ?_
        refine lv_iload F.1 F.2.1 dX7_gone_71 (lv_at hl 4 rfl) ?_
        refine r_icmp_ge (tgt := 83) F dX7_gone_73 (by decide) h (fun h => ?_) (fun h => ?_)
        · exact hj_83 S _ _ _ x0 x2 x3 x4 x5 hr_x0 hk_x0 h I (lv_sub hl [1, 2, 3, 4, 5] rfl)
        · refine lv_iload F.1 F.2.1 dX7_gone_76 (lv_at hl 5 rfl) ?_
          refine lv_istore_n (lv' := [(3, .int x5), (6, .int z4), (0, .ref (gz g + x0)), (2, .int x2), (4, .int x4), (5, .int x5)]) F.1 F.2.1 dX7_gone_78 rfl hl (by decide) rfl (fun ls hl => ?_)
          refine lv_iload F.1 F.2.1 dX7_gone_79 (lv_at hl 1 rfl) ?_
          refine lv_istore (lv' := [(4, .int z4), (3, .int x5), (6, .int z4), (0, .ref (gz g + x0)), (2, .int x2), (5, .int x5)]) F.1 F.2.1 dX7_gone_81 hl (by decide) rfl (fun ls hl => ?_)
          exact hj_83 S _ _ _ x0 x2 x5 z4 x5 hr_x0 hk_x0 h I (lv_sub hl [3, 4, 1, 0, 5] rfl)
  have hj_19 : ∀ (S : HC) (H : Heap) (locs : List Loc) (ls : Array Slot), BX7_gone_19 ln post S  → Inv g N ln S s H locs → lv_has ls 7 [] → W p l e rmX7_gone s m ([.ref (gz g + a0), .int a1, .int a2] : List Value).toArray below meth c H locs 0 0 (MQ below (QI g N ln post) ([.ref (gz g + a0), .int a1, .int a2] : List Value).toArray s 0 0 (gF g)) (F0 m 19 ls []) := by
    intro S H locs ls h I hl
    unfold BX7_gone_19 at h
    refine lv_ldc F.1 F.2.1 F.2.2.2.1 (F.2.2.2.2 _ tw_334) dX7_gone_19 ?_
    exact r_ireturn F I ⟨hr.1, hr.2.1, trivial⟩ h dX7_gone_21
  refine lv_iload_n F.1 F.2.1 dX7_gone_0 rfl (lv_at hl 1 rfl) ?_
  refine r_if_lt (tgt := 19) F dX7_gone_1 (by decide) h (fun h => ?_) (fun h => ?_)
  · exact hj_19 S _ _ _   h I (lv_sub hl [] rfl)
  · refine lv_iload_n F.1 F.2.1 dX7_gone_4 rfl (lv_at hl 1 rfl) ?_
    refine lv_bipush (v := 60) F.1 F.2.1 dX7_gone_5 (by decide) ?_
    refine r_icmp_gt (tgt := 19) F dX7_gone_7 (by decide) h (fun h => ?_) (fun h => ?_)
    · exact hj_19 S _ _ _   h I (lv_sub hl [] rfl)
    · refine lv_iload_n F.1 F.2.1 dX7_gone_10 rfl (lv_at hl 2 rfl) ?_
      refine r_if_lt (tgt := 19) F dX7_gone_11 (by decide) h (fun h => ?_) (fun h => ?_)
      · exact hj_19 S _ _ _   h I (lv_sub hl [] rfl)
      · refine lv_iload_n F.1 F.2.1 dX7_gone_14 rfl (lv_at hl 2 rfl) ?_
        refine lv_iconst (v := 1) F.1 F.2.1 dX7_gone_15 (by decide) ?_
        refine r_icmp_le (tgt := 22) F dX7_gone_16 (by decide) h (fun h => ?_) (fun h => ?_)
        · refine lv_aload_n F.1 F.2.1 dX7_gone_22 rfl (lv_at hl 0 rfl) ?_
          refine lv_iload_n F.1 F.2.1 dX7_gone_23 rfl (lv_at hl 1 rfl) ?_
          refine g_V I (run_V (As := [.int a1]) (rest := []) F I hr_a0 hk_a0 (by decide) kX7_188 (ctX7_think hr_a0 hk_a0 h) ⟨rfl, rfl⟩ ⟨Nat.le_of_ble_eq_true rfl, Nat.le_of_ble_eq_true rfl⟩ rfl hl.1 rfl (Nat.le_of_ble_eq_true rfl) ⟨Nat.le_of_ble_eq_true rfl, Nat.le_of_ble_eq_true rfl⟩ dX7_gone_24) (fun S H locs I h => ?_)
          refine lv_aload_n F.1 F.2.1 dX7_gone_27 rfl (lv_at hl 0 rfl) ?_
          refine r_getN F I hr_a0 hk_a0 fX7_29 (f := 4) rfl (by decide) dX7_gone_28 h (fun b5 hr_b5 hk_b5 h => ?_)
          refine lv_aload_n F.1 F.2.1 dX7_gone_31 rfl (lv_at hl 0 rfl) ?_
          refine r_getN F I hr_a0 hk_a0 fX7_23 (f := 0) rfl (by decide) dX7_gone_32 h (fun b6 hr_b6 hk_b6 h => ?_)
          refine g_V I (run_V (As := [.ref (gz g + b6)]) (rest := []) F I hr_b5 hk_b5 (by decide) kX7_149 (ctX4_workOutAll hr_b5 hk_b5 hr_b6 hk_b6 h) ⟨rfl, rfl⟩ ⟨Nat.le_of_ble_eq_true rfl, Nat.le_of_ble_eq_true rfl⟩ rfl hl.1 rfl (Nat.le_of_ble_eq_true rfl) ⟨Nat.le_of_ble_eq_true rfl, Nat.le_of_ble_eq_true rfl⟩ dX7_gone_35) (fun S H locs I h => ?_)
          refine lv_iconst (v := 0) F.1 F.2.1 dX7_gone_38 (by decide) ?_
          refine lv_istore_n (lv' := [(3, .int (0 : Int32)), (0, .ref (gz g + a0)), (1, .int a1), (2, .int a2)]) F.1 F.2.1 dX7_gone_39 rfl hl (by decide) rfl (fun ls hl => ?_)
          refine lv_bipush (v := 15) F.1 F.2.1 dX7_gone_40 (by decide) ?_
          refine lv_istore (lv' := [(4, .int (15 : Int32)), (3, .int (0 : Int32)), (0, .ref (gz g + a0)), (1, .int a1), (2, .int a2)]) F.1 F.2.1 dX7_gone_42 hl (by decide) rfl (fun ls hl => ?_)
          refine lv_iconst (v := 0) F.1 F.2.1 dX7_gone_44 (by decide) ?_
          refine lv_istore (lv' := [(5, .int (0 : Int32)), (4, .int (15 : Int32)), (3, .int (0 : Int32)), (0, .ref (gz g + a0)), (1, .int a1), (2, .int a2)]) F.1 F.2.1 dX7_gone_45 hl (by decide) rfl (fun ls hl => ?_)
          obtain ⟨n47, h⟩ := h
          exact hl_47 n47 S _ _ _ a0 a2 (0 : Int32) (15 : Int32) (0 : Int32) hr_a0 hk_a0 h I (lv_sub hl [3, 5, 2, 1, 0] rfl)
        · exact hj_19 S _ _ _   h I (lv_sub hl [] rfl)
theorem bdX7_spoon_0 : ∀ q ∈ ([(0, .iload_n 1, 1), (1, .invokestatic 200, 3), (4, .ifCond .eq 12, 3), (7, .iload_n 2, 1), (8, .ifCond .lt 8, 3), (11, .iload_n 2, 1), (12, .iconst 1, 1), (13, .if_icmp .le 6, 3), (16, .ldc 73, 2), (18, .ireturn, 1), (19, .aload_n 0, 1), (20, .getfield 42, 3), (23, .iload_n 1, 1), (24, .aaload, 1), (25, .astore_n 3, 1), (26, .aload_n 3, 1), (27, .invokevirtual 203, 3), (30, .ifCond .eq 6, 3), (33, .ldc 206, 2), (35, .ireturn, 1), (36, .aload_n 0, 1), (37, .getfield 29, 3), (40, .aload_n 0, 1), (41, .getfield 10, 3), (44, .invokevirtual 149, 3), (47, .ldc 173, 2), (49, .istore 4, 2), (51, .ldc 173, 2), (53, .istore 5, 2), (55, .iconst 0, 1), (56, .istore 6, 2), (58, .iload 6, 2), (60, .aload_n 0, 1), (61, .getfield 10, 3), (64, .getfield 174, 3), (67, .if_icmp .ge 43, 3), (70, .aload_n 0, 1), (71, .getfield 29, 3), (74, .iload 6, 2), (76, .aload_n 3, 1)] : List (Nat × Jvm.ClassFile.Instr × Nat)), decode cX7_spoon q.1 = .ok q.2 := chk_ok _ 0 _ rfl (by decide +kernel)
theorem dX7_spoon_0 : decode cX7_spoon 0 = .ok (.iload_n 1, 1) := bdX7_spoon_0 (0, .iload_n 1, 1) (List.mem_of_getElem? (i := 0) rfl)
theorem dX7_spoon_1 : decode cX7_spoon 1 = .ok (.invokestatic 200, 3) := bdX7_spoon_0 (1, .invokestatic 200, 3) (List.mem_of_getElem? (i := 1) rfl)
theorem dX7_spoon_4 : decode cX7_spoon 4 = .ok (.ifCond .eq 12, 3) := bdX7_spoon_0 (4, .ifCond .eq 12, 3) (List.mem_of_getElem? (i := 2) rfl)
theorem dX7_spoon_7 : decode cX7_spoon 7 = .ok (.iload_n 2, 1) := bdX7_spoon_0 (7, .iload_n 2, 1) (List.mem_of_getElem? (i := 3) rfl)
theorem dX7_spoon_8 : decode cX7_spoon 8 = .ok (.ifCond .lt 8, 3) := bdX7_spoon_0 (8, .ifCond .lt 8, 3) (List.mem_of_getElem? (i := 4) rfl)
theorem dX7_spoon_11 : decode cX7_spoon 11 = .ok (.iload_n 2, 1) := bdX7_spoon_0 (11, .iload_n 2, 1) (List.mem_of_getElem? (i := 5) rfl)
theorem dX7_spoon_12 : decode cX7_spoon 12 = .ok (.iconst 1, 1) := bdX7_spoon_0 (12, .iconst 1, 1) (List.mem_of_getElem? (i := 6) rfl)
theorem dX7_spoon_13 : decode cX7_spoon 13 = .ok (.if_icmp .le 6, 3) := bdX7_spoon_0 (13, .if_icmp .le 6, 3) (List.mem_of_getElem? (i := 7) rfl)
theorem dX7_spoon_16 : decode cX7_spoon 16 = .ok (.ldc 73, 2) := bdX7_spoon_0 (16, .ldc 73, 2) (List.mem_of_getElem? (i := 8) rfl)
theorem dX7_spoon_18 : decode cX7_spoon 18 = .ok (.ireturn, 1) := bdX7_spoon_0 (18, .ireturn, 1) (List.mem_of_getElem? (i := 9) rfl)
theorem dX7_spoon_19 : decode cX7_spoon 19 = .ok (.aload_n 0, 1) := bdX7_spoon_0 (19, .aload_n 0, 1) (List.mem_of_getElem? (i := 10) rfl)
theorem dX7_spoon_20 : decode cX7_spoon 20 = .ok (.getfield 42, 3) := bdX7_spoon_0 (20, .getfield 42, 3) (List.mem_of_getElem? (i := 11) rfl)
theorem dX7_spoon_23 : decode cX7_spoon 23 = .ok (.iload_n 1, 1) := bdX7_spoon_0 (23, .iload_n 1, 1) (List.mem_of_getElem? (i := 12) rfl)
theorem dX7_spoon_24 : decode cX7_spoon 24 = .ok (.aaload, 1) := bdX7_spoon_0 (24, .aaload, 1) (List.mem_of_getElem? (i := 13) rfl)
theorem dX7_spoon_25 : decode cX7_spoon 25 = .ok (.astore_n 3, 1) := bdX7_spoon_0 (25, .astore_n 3, 1) (List.mem_of_getElem? (i := 14) rfl)
theorem dX7_spoon_26 : decode cX7_spoon 26 = .ok (.aload_n 3, 1) := bdX7_spoon_0 (26, .aload_n 3, 1) (List.mem_of_getElem? (i := 15) rfl)
theorem dX7_spoon_27 : decode cX7_spoon 27 = .ok (.invokevirtual 203, 3) := bdX7_spoon_0 (27, .invokevirtual 203, 3) (List.mem_of_getElem? (i := 16) rfl)
theorem dX7_spoon_30 : decode cX7_spoon 30 = .ok (.ifCond .eq 6, 3) := bdX7_spoon_0 (30, .ifCond .eq 6, 3) (List.mem_of_getElem? (i := 17) rfl)
theorem dX7_spoon_33 : decode cX7_spoon 33 = .ok (.ldc 206, 2) := bdX7_spoon_0 (33, .ldc 206, 2) (List.mem_of_getElem? (i := 18) rfl)
theorem dX7_spoon_35 : decode cX7_spoon 35 = .ok (.ireturn, 1) := bdX7_spoon_0 (35, .ireturn, 1) (List.mem_of_getElem? (i := 19) rfl)
theorem dX7_spoon_36 : decode cX7_spoon 36 = .ok (.aload_n 0, 1) := bdX7_spoon_0 (36, .aload_n 0, 1) (List.mem_of_getElem? (i := 20) rfl)
theorem dX7_spoon_37 : decode cX7_spoon 37 = .ok (.getfield 29, 3) := bdX7_spoon_0 (37, .getfield 29, 3) (List.mem_of_getElem? (i := 21) rfl)
theorem dX7_spoon_40 : decode cX7_spoon 40 = .ok (.aload_n 0, 1) := bdX7_spoon_0 (40, .aload_n 0, 1) (List.mem_of_getElem? (i := 22) rfl)
theorem dX7_spoon_41 : decode cX7_spoon 41 = .ok (.getfield 10, 3) := bdX7_spoon_0 (41, .getfield 10, 3) (List.mem_of_getElem? (i := 23) rfl)
theorem dX7_spoon_44 : decode cX7_spoon 44 = .ok (.invokevirtual 149, 3) := bdX7_spoon_0 (44, .invokevirtual 149, 3) (List.mem_of_getElem? (i := 24) rfl)
theorem dX7_spoon_47 : decode cX7_spoon 47 = .ok (.ldc 173, 2) := bdX7_spoon_0 (47, .ldc 173, 2) (List.mem_of_getElem? (i := 25) rfl)
theorem dX7_spoon_49 : decode cX7_spoon 49 = .ok (.istore 4, 2) := bdX7_spoon_0 (49, .istore 4, 2) (List.mem_of_getElem? (i := 26) rfl)
theorem dX7_spoon_51 : decode cX7_spoon 51 = .ok (.ldc 173, 2) := bdX7_spoon_0 (51, .ldc 173, 2) (List.mem_of_getElem? (i := 27) rfl)
theorem dX7_spoon_53 : decode cX7_spoon 53 = .ok (.istore 5, 2) := bdX7_spoon_0 (53, .istore 5, 2) (List.mem_of_getElem? (i := 28) rfl)
theorem dX7_spoon_55 : decode cX7_spoon 55 = .ok (.iconst 0, 1) := bdX7_spoon_0 (55, .iconst 0, 1) (List.mem_of_getElem? (i := 29) rfl)
theorem dX7_spoon_56 : decode cX7_spoon 56 = .ok (.istore 6, 2) := bdX7_spoon_0 (56, .istore 6, 2) (List.mem_of_getElem? (i := 30) rfl)
theorem dX7_spoon_58 : decode cX7_spoon 58 = .ok (.iload 6, 2) := bdX7_spoon_0 (58, .iload 6, 2) (List.mem_of_getElem? (i := 31) rfl)
theorem dX7_spoon_60 : decode cX7_spoon 60 = .ok (.aload_n 0, 1) := bdX7_spoon_0 (60, .aload_n 0, 1) (List.mem_of_getElem? (i := 32) rfl)
theorem dX7_spoon_61 : decode cX7_spoon 61 = .ok (.getfield 10, 3) := bdX7_spoon_0 (61, .getfield 10, 3) (List.mem_of_getElem? (i := 33) rfl)
theorem dX7_spoon_64 : decode cX7_spoon 64 = .ok (.getfield 174, 3) := bdX7_spoon_0 (64, .getfield 174, 3) (List.mem_of_getElem? (i := 34) rfl)
theorem dX7_spoon_67 : decode cX7_spoon 67 = .ok (.if_icmp .ge 43, 3) := bdX7_spoon_0 (67, .if_icmp .ge 43, 3) (List.mem_of_getElem? (i := 35) rfl)
theorem dX7_spoon_70 : decode cX7_spoon 70 = .ok (.aload_n 0, 1) := bdX7_spoon_0 (70, .aload_n 0, 1) (List.mem_of_getElem? (i := 36) rfl)
theorem dX7_spoon_71 : decode cX7_spoon 71 = .ok (.getfield 29, 3) := bdX7_spoon_0 (71, .getfield 29, 3) (List.mem_of_getElem? (i := 37) rfl)
theorem dX7_spoon_74 : decode cX7_spoon 74 = .ok (.iload 6, 2) := bdX7_spoon_0 (74, .iload 6, 2) (List.mem_of_getElem? (i := 38) rfl)
theorem dX7_spoon_76 : decode cX7_spoon 76 = .ok (.aload_n 3, 1) := bdX7_spoon_0 (76, .aload_n 3, 1) (List.mem_of_getElem? (i := 39) rfl)
theorem bdX7_spoon_77 : ∀ q ∈ ([(77, .invokevirtual 207, 3), (80, .istore 7, 2), (82, .iload 4, 2), (84, .ldc 173, 2), (86, .if_icmp .eq 10, 3), (89, .iload 7, 2), (91, .iload 5, 2), (93, .if_icmp .ge 11, 3), (96, .iload 6, 2), (98, .istore 4, 2), (100, .iload 7, 2), (102, .istore 5, 2), (104, .iinc 6 1, 3), (107, .goto (-49), 3), (110, .iload_n 2, 1), (111, .ifCond .ne 8, 3), (114, .iload 4, 2), (116, .goto 5, 3), (119, .iload 5, 2), (121, .ireturn, 1)] : List (Nat × Jvm.ClassFile.Instr × Nat)), decode cX7_spoon q.1 = .ok q.2 := chk_ok _ 77 _ rfl (by decide +kernel)
theorem dX7_spoon_77 : decode cX7_spoon 77 = .ok (.invokevirtual 207, 3) := bdX7_spoon_77 (77, .invokevirtual 207, 3) (List.mem_of_getElem? (i := 0) rfl)
theorem dX7_spoon_80 : decode cX7_spoon 80 = .ok (.istore 7, 2) := bdX7_spoon_77 (80, .istore 7, 2) (List.mem_of_getElem? (i := 1) rfl)
theorem dX7_spoon_82 : decode cX7_spoon 82 = .ok (.iload 4, 2) := bdX7_spoon_77 (82, .iload 4, 2) (List.mem_of_getElem? (i := 2) rfl)
theorem dX7_spoon_84 : decode cX7_spoon 84 = .ok (.ldc 173, 2) := bdX7_spoon_77 (84, .ldc 173, 2) (List.mem_of_getElem? (i := 3) rfl)
theorem dX7_spoon_86 : decode cX7_spoon 86 = .ok (.if_icmp .eq 10, 3) := bdX7_spoon_77 (86, .if_icmp .eq 10, 3) (List.mem_of_getElem? (i := 4) rfl)
theorem dX7_spoon_89 : decode cX7_spoon 89 = .ok (.iload 7, 2) := bdX7_spoon_77 (89, .iload 7, 2) (List.mem_of_getElem? (i := 5) rfl)
theorem dX7_spoon_91 : decode cX7_spoon 91 = .ok (.iload 5, 2) := bdX7_spoon_77 (91, .iload 5, 2) (List.mem_of_getElem? (i := 6) rfl)
theorem dX7_spoon_93 : decode cX7_spoon 93 = .ok (.if_icmp .ge 11, 3) := bdX7_spoon_77 (93, .if_icmp .ge 11, 3) (List.mem_of_getElem? (i := 7) rfl)
theorem dX7_spoon_96 : decode cX7_spoon 96 = .ok (.iload 6, 2) := bdX7_spoon_77 (96, .iload 6, 2) (List.mem_of_getElem? (i := 8) rfl)
theorem dX7_spoon_98 : decode cX7_spoon 98 = .ok (.istore 4, 2) := bdX7_spoon_77 (98, .istore 4, 2) (List.mem_of_getElem? (i := 9) rfl)
theorem dX7_spoon_100 : decode cX7_spoon 100 = .ok (.iload 7, 2) := bdX7_spoon_77 (100, .iload 7, 2) (List.mem_of_getElem? (i := 10) rfl)
theorem dX7_spoon_102 : decode cX7_spoon 102 = .ok (.istore 5, 2) := bdX7_spoon_77 (102, .istore 5, 2) (List.mem_of_getElem? (i := 11) rfl)
theorem dX7_spoon_104 : decode cX7_spoon 104 = .ok (.iinc 6 1, 3) := bdX7_spoon_77 (104, .iinc 6 1, 3) (List.mem_of_getElem? (i := 12) rfl)
theorem dX7_spoon_107 : decode cX7_spoon 107 = .ok (.goto (-49), 3) := bdX7_spoon_77 (107, .goto (-49), 3) (List.mem_of_getElem? (i := 13) rfl)
theorem dX7_spoon_110 : decode cX7_spoon 110 = .ok (.iload_n 2, 1) := bdX7_spoon_77 (110, .iload_n 2, 1) (List.mem_of_getElem? (i := 14) rfl)
theorem dX7_spoon_111 : decode cX7_spoon 111 = .ok (.ifCond .ne 8, 3) := bdX7_spoon_77 (111, .ifCond .ne 8, 3) (List.mem_of_getElem? (i := 15) rfl)
theorem dX7_spoon_114 : decode cX7_spoon 114 = .ok (.iload 4, 2) := bdX7_spoon_77 (114, .iload 4, 2) (List.mem_of_getElem? (i := 16) rfl)
theorem dX7_spoon_116 : decode cX7_spoon 116 = .ok (.goto 5, 3) := bdX7_spoon_77 (116, .goto 5, 3) (List.mem_of_getElem? (i := 17) rfl)
theorem dX7_spoon_119 : decode cX7_spoon 119 = .ok (.iload 5, 2) := bdX7_spoon_77 (119, .iload 5, 2) (List.mem_of_getElem? (i := 18) rfl)
theorem dX7_spoon_121 : decode cX7_spoon 121 = .ok (.ireturn, 1) := bdX7_spoon_77 (121, .ireturn, 1) (List.mem_of_getElem? (i := 19) rfl)
theorem kX7_207 : mthV RX7 207 4 yX4_apart prog_6_method_14_code 5 (Option.some Jvm.ClassFile.FieldType.int) 2 := ⟨⟨⟨tw_594, tw_62, tw_597⟩, rfl, by decide +kernel⟩, tw_595, tw_596, rfl⟩
theorem kX7_200 : mthS RX7 200 yX7_isSheet prog_1_method_49_code 1 (Option.some Jvm.ClassFile.FieldType.boolean) 1 := ⟨⟨⟨tw_586, tw_60, tw_588⟩, rfl, by decide +kernel⟩, tw_587⟩
theorem fX7_42 : fldOK RX7 42 7 6 (.array (.object "LionShield$Row")) true := ⟨_, _, _, tyX7, ⟨rfl, iX7, by decide, rfl, by decide⟩, tw_291, ⟨tyX7_ok, nmX7⟩, by decide +kernel, rfl, rfl⟩
theorem kX7_203 : mthV RX7 203 3 yX3_isMissing prog_5_method_4_code 1 (Option.some Jvm.ClassFile.FieldType.boolean) 0 := ⟨⟨⟨tw_589, tw_65, tw_592⟩, rfl, by decide +kernel⟩, tw_590, tw_591, rfl⟩
def BX7_spoon_104 (ln : Nat → Nat) (post : Int32 → HC → Prop) (K58 : HC → Nat → Int32 → Nat → Int32 → Int32 → Int32 → Prop) (S : HC) (x0 : Nat) (x2 : Int32) (x3 : Nat) (x4 : Int32) (x5 : Int32) (x6 : Int32) : Prop := lt_ (x6 + (1 : Int32)) fun z1 => K58 S x0 x2 x3 x4 x5 z1
def BX7_spoon_96 (ln : Nat → Nat) (post : Int32 → HC → Prop) (K58 : HC → Nat → Int32 → Nat → Int32 → Int32 → Int32 → Prop) (S : HC) (x0 : Nat) (x2 : Int32) (x3 : Nat) (x6 : Int32) (x7 : Int32) : Prop := BX7_spoon_104 ln post K58 S x0 x2 x3 x6 x7 x6
def LX7_spoon_58 (ln : Nat → Nat) (post : Int32 → HC → Prop) : Nat → HC → Nat → Int32 → Nat → Int32 → Int32 → Int32 → Prop
  | 0 => fun _ _ _ _ _ _ _ => False
  | n58 + 1 => fun S x0 x2 x3 x4 x5 x6 => dn_ (hR S x0 0) fun b2 => lt_ (hI S b2 6) fun z3 => if z3 ≤ x6 then (if x2 = 0 then (post x4 S) else (post x5 S)) else (dn_ (hR S x0 4) fun b4 => wpX4_apart ln S b4 x6 x3 fun z5 S => if x4 = (-1000000005 : Int32) then (BX7_spoon_96 ln post (LX7_spoon_58 ln post n58) S x0 x2 x3 x6 z5) else (if x5 ≤ z5 then (BX7_spoon_104 ln post (LX7_spoon_58 ln post n58) S x0 x2 x3 x4 x5 x6) else (BX7_spoon_96 ln post (LX7_spoon_58 ln post n58) S x0 x2 x3 x6 z5)))
def BX7_spoon_16 (ln : Nat → Nat) (post : Int32 → HC → Prop) (S : HC)  : Prop := post (-1000000001 : Int32) S
def wpX7_spoon (ln : Nat → Nat) (S : HC) (a0 : Nat) (a1 : Int32) (a2 : Int32) (post : Int32 → HC → Prop) : Prop := wpX7_isSheet ln S a1 fun z6 S => if z6 = 0 then (BX7_spoon_16 ln post S) else (if a2 < 0 then (BX7_spoon_16 ln post S) else (if a2 ≤ (1 : Int32) then (dn_ (hR S a0 6) fun b7 => al_ (ln b7) a1 (hR S b7) fun o => dn_ o fun b8 => wpX3_isMissing ln S b8 fun z9 S => if z9 = 0 then (dn_ (hR S a0 4) fun b10 => dn_ (hR S a0 0) fun b11 => wpX4_workOutAll ln S b10 b11 fun S => ∃ n58, LX7_spoon_58 ln post n58 S a0 a2 b8 (-1000000005 : Int32) (-1000000005 : Int32) (0 : Int32)) else (post (-1000000011 : Int32) S)) else (BX7_spoon_16 ln post S)))
abbrev rmX7_spoon : Room := { frames := 6, cells := 0, slots := 0, locals := 143 }
set_option maxHeartbeats 4000000 in
set_option maxRecDepth 100000 in
theorem ctX7_spoon {l : Launch} {g : GX} {N : Nat} {ln : Nat → Nat} {S : HC} {a0 : Nat} {a1 : Int32} {a2 : Int32} {post : Int32 → HC → Prop} (hr_a0 : a0 < N) (hk_a0 : kd a0 = 7) (h : wpX7_spoon ln S a0 a1 a2 post) : Met l yX7_spoon (Cond.code yX7_spoon prog_1_method_21_code 8 (Option.some Jvm.ClassFile.FieldType.int) :: gtbl) rmX7_spoon (va_Pc [.ref (gz g + a0), .int a1, .int a2] (AtP g N ln S)) (QI g N ln post) 0 0 (gF g) := by
  refine m_of (by decide) (Nat.le_of_ble_eq_true rfl) ?_
  intro p e s m below meth c ls F hr I hl
  have hl : lv_has ls 8 [(0, .ref (gz g + a0)), (1, .int a1), (2, .int a2)] := hl
  unfold wpX7_spoon at h
  have hl_58 : ∀ n58 : Nat, ∀ (S : HC) (H : Heap) (locs : List Loc) (ls : Array Slot) (x0 : Nat) (x2 : Int32) (x3 : Nat) (x4 : Int32) (x5 : Int32) (x6 : Int32), x0 < N → kd x0 = 7 → x3 < N → kd x3 = 3 → LX7_spoon_58 ln post n58 S x0 x2 x3 x4 x5 x6 → Inv g N ln S s H locs → lv_has ls 8 [(0, .ref (gz g + x0)), (2, .int x2), (3, .ref (gz g + x3)), (4, .int x4), (5, .int x5), (6, .int x6)] → W p l e rmX7_spoon s m ([.ref (gz g + a0), .int a1, .int a2] : List Value).toArray below meth c H locs 0 0 (MQ below (QI g N ln post) ([.ref (gz g + a0), .int a1, .int a2] : List Value).toArray s 0 0 (gF g)) (F0 m 58 ls []) := by
    intro n58
    induction n58 with
    | zero =>
      intro S H locs ls x0 x2 x3 x4 x5 x6 hr_x0 hk_x0 hr_x3 hk_x3 h I hl
      exact h.elim
    | succ n58 ih =>
      have hk58 := ih
      have hj_104 : ∀ (S : HC) (H : Heap) (locs : List Loc) (ls : Array Slot) (x0 : Nat) (x2 : Int32) (x3 : Nat) (x4 : Int32) (x5 : Int32) (x6 : Int32), x0 < N → kd x0 = 7 → x3 < N → kd x3 = 3 → BX7_spoon_104 ln post (LX7_spoon_58 ln post n58) S x0 x2 x3 x4 x5 x6 → Inv g N ln S s H locs → lv_has ls 8 [(0, .ref (gz g + x0)), (2, .int x2), (3, .ref (gz g + x3)), (4, .int x4), (5, .int x5), (6, .int x6)] → W p l e rmX7_spoon s m ([.ref (gz g + a0), .int a1, .int a2] : List Value).toArray below meth c H locs 0 0 (MQ below (QI g N ln post) ([.ref (gz g + a0), .int a1, .int a2] : List Value).toArray s 0 0 (gF g)) (F0 m 104 ls []) := by
        intro S H locs ls x0 x2 x3 x4 x5 x6 hr_x0 hk_x0 hr_x3 hk_x3 h I hl
        unfold BX7_spoon_104 at h
        obtain ⟨z1, e_z1, h⟩ := lt_x h
        refine lv_iinc (v := z1) (lv' := [(6, .int z1), (0, .ref (gz g + x0)), (2, .int x2), (3, .ref (gz g + x3)), (4, .int x4), (5, .int x5)]) F.1 F.2.1 dX7_spoon_104 hl (k := 5) rfl (by rw [e_z1]; rfl) (by decide) rfl (fun ls hl => ?_)
        refine lv_goto (tgt := 58) F.1 F.2.1 dX7_spoon_107 (by decide) ?_
        exact hk58 S _ _ _ x0 x2 x3 x4 x5 z1 hr_x0 hk_x0 hr_x3 hk_x3 h I (lv_sub hl [1, 2, 3, 4, 5, 0] rfl)
      have hj_96 : ∀ (S : HC) (H : Heap) (locs : List Loc) (ls : Array Slot) (x0 : Nat) (x2 : Int32) (x3 : Nat) (x6 : Int32) (x7 : Int32), x0 < N → kd x0 = 7 → x3 < N → kd x3 = 3 → BX7_spoon_96 ln post (LX7_spoon_58 ln post n58) S x0 x2 x3 x6 x7 → Inv g N ln S s H locs → lv_has ls 8 [(0, .ref (gz g + x0)), (2, .int x2), (3, .ref (gz g + x3)), (6, .int x6), (7, .int x7)] → W p l e rmX7_spoon s m ([.ref (gz g + a0), .int a1, .int a2] : List Value).toArray below meth c H locs 0 0 (MQ below (QI g N ln post) ([.ref (gz g + a0), .int a1, .int a2] : List Value).toArray s 0 0 (gF g)) (F0 m 96 ls []) := by
        intro S H locs ls x0 x2 x3 x6 x7 hr_x0 hk_x0 hr_x3 hk_x3 h I hl
        unfold BX7_spoon_96 at h
        refine lv_iload F.1 F.2.1 dX7_spoon_96 (lv_at hl 3 rfl) ?_
        refine lv_istore (lv' := [(4, .int x6), (0, .ref (gz g + x0)), (2, .int x2), (3, .ref (gz g + x3)), (6, .int x6), (7, .int x7)]) F.1 F.2.1 dX7_spoon_98 hl (by decide) rfl (fun ls hl => ?_)
        refine lv_iload F.1 F.2.1 dX7_spoon_100 (lv_at hl 5 rfl) ?_
        refine lv_istore (lv' := [(5, .int x7), (4, .int x6), (0, .ref (gz g + x0)), (2, .int x2), (3, .ref (gz g + x3)), (6, .int x6), (7, .int x7)]) F.1 F.2.1 dX7_spoon_102 hl (by decide) rfl (fun ls hl => ?_)
        exact hj_104 S _ _ _ x0 x2 x3 x6 x7 x6 hr_x0 hk_x0 hr_x3 hk_x3 h I (lv_sub hl [2, 3, 4, 1, 0, 5] rfl)
      intro S H locs ls x0 x2 x3 x4 x5 x6 hr_x0 hk_x0 hr_x3 hk_x3 h I hl
      rw [LX7_spoon_58] at h
      refine lv_iload F.1 F.2.1 dX7_spoon_58 (lv_at hl 5 rfl) ?_
      refine lv_aload_n F.1 F.2.1 dX7_spoon_60 rfl (lv_at hl 0 rfl) ?_
      refine r_getN F I hr_x0 hk_x0 fX7_10 (f := 0) rfl (by decide) dX7_spoon_61 h (fun b2 hr_b2 hk_b2 h => ?_)
      refine r_getI F I hr_b2 hk_b2 fX7_174 rfl dX7_spoon_64 h (fun z3 h => ?_)
      refine r_icmp_ge (tgt := 110) F dX7_spoon_67 (by decide) h (fun h => ?_) (fun h => ?_)
      · refine lv_iload_n F.1 F.2.1 dX7_spoon_110 rfl (lv_at hl 1 rfl) ?_
        refine r_if_ne (tgt := 119) F dX7_spoon_111 (by decide) h (fun h => ?_) (fun h => ?_)
        · refine lv_iload F.1 F.2.1 dX7_spoon_119 (lv_at hl 4 rfl) ?_
          exact r_ireturn F I ⟨hr.1, hr.2.1, trivial⟩ h dX7_spoon_121
        · refine lv_iload F.1 F.2.1 dX7_spoon_114 (lv_at hl 3 rfl) ?_
          refine lv_goto (tgt := 121) F.1 F.2.1 dX7_spoon_116 (by decide) ?_
          exact r_ireturn F I ⟨hr.1, hr.2.1, trivial⟩ h dX7_spoon_121
      · refine lv_aload_n F.1 F.2.1 dX7_spoon_70 rfl (lv_at hl 0 rfl) ?_
        refine r_getN F I hr_x0 hk_x0 fX7_29 (f := 4) rfl (by decide) dX7_spoon_71 h (fun b4 hr_b4 hk_b4 h => ?_)
        refine lv_iload F.1 F.2.1 dX7_spoon_74 (lv_at hl 5 rfl) ?_
        refine lv_aload_n F.1 F.2.1 dX7_spoon_76 rfl (lv_at hl 2 rfl) ?_
        refine g_I I (run_V (As := [.int x6, .ref (gz g + x3)]) (rest := []) F I hr_b4 hk_b4 (by decide) kX7_207 (ctX4_apart hr_b4 hk_b4 hr_x3 hk_x3 h) ⟨rfl, rfl⟩ ⟨Nat.le_of_ble_eq_true rfl, Nat.le_of_ble_eq_true rfl⟩ rfl hl.1 rfl (Nat.le_of_ble_eq_true rfl) ⟨Nat.le_of_ble_eq_true rfl, Nat.le_of_ble_eq_true rfl⟩ dX7_spoon_77) (fun z5 S H locs I h => ?_)
        refine lv_istore (lv' := [(7, .int z5), (0, .ref (gz g + x0)), (2, .int x2), (3, .ref (gz g + x3)), (4, .int x4), (5, .int x5), (6, .int x6)]) F.1 F.2.1 dX7_spoon_80 hl (by decide) rfl (fun ls hl => ?_)
        refine lv_iload F.1 F.2.1 dX7_spoon_82 (lv_at hl 4 rfl) ?_
        refine lv_ldc F.1 F.2.1 F.2.2.2.1 (F.2.2.2.2 _ tw_534) dX7_spoon_84 ?_
        refine r_icmp_eq (tgt := 96) F dX7_spoon_86 (by decide) h (fun h => ?_) (fun h => ?_)
        · exact hj_96 S _ _ _ x0 x2 x3 x6 z5 hr_x0 hk_x0 hr_x3 hk_x3 h I (lv_sub hl [1, 2, 3, 6, 0] rfl)
        · refine lv_iload F.1 F.2.1 dX7_spoon_89 (lv_at hl 0 rfl) ?_
          refine lv_iload F.1 F.2.1 dX7_spoon_91 (lv_at hl 5 rfl) ?_
          refine r_icmp_ge (tgt := 104) F dX7_spoon_93 (by decide) h (fun h => ?_) (fun h => ?_)
          · exact hj_104 S _ _ _ x0 x2 x3 x4 x5 x6 hr_x0 hk_x0 hr_x3 hk_x3 h I (lv_sub hl [1, 2, 3, 4, 5, 6] rfl)
          · exact hj_96 S _ _ _ x0 x2 x3 x6 z5 hr_x0 hk_x0 hr_x3 hk_x3 h I (lv_sub hl [1, 2, 3, 6, 0] rfl)
  have hj_16 : ∀ (S : HC) (H : Heap) (locs : List Loc) (ls : Array Slot), BX7_spoon_16 ln post S  → Inv g N ln S s H locs → lv_has ls 8 [] → W p l e rmX7_spoon s m ([.ref (gz g + a0), .int a1, .int a2] : List Value).toArray below meth c H locs 0 0 (MQ below (QI g N ln post) ([.ref (gz g + a0), .int a1, .int a2] : List Value).toArray s 0 0 (gF g)) (F0 m 16 ls []) := by
    intro S H locs ls h I hl
    unfold BX7_spoon_16 at h
    refine lv_ldc F.1 F.2.1 F.2.2.2.1 (F.2.2.2.2 _ tw_334) dX7_spoon_16 ?_
    exact r_ireturn F I ⟨hr.1, hr.2.1, trivial⟩ h dX7_spoon_18
  refine lv_iload_n F.1 F.2.1 dX7_spoon_0 rfl (lv_at hl 1 rfl) ?_
  refine g_I I (run_S (As := [.int a1]) (rest := []) F I kX7_200 (ctX7_isSheet h) ⟨rfl, rfl⟩ ⟨Nat.le_of_ble_eq_true rfl, Nat.le_of_ble_eq_true rfl⟩ rfl hl.1 rfl (Nat.le_of_ble_eq_true rfl) ⟨Nat.le_of_ble_eq_true rfl, Nat.le_of_ble_eq_true rfl⟩ dX7_spoon_1) (fun z6 S H locs I h => ?_)
  refine r_if_eq (tgt := 16) F dX7_spoon_4 (by decide) h (fun h => ?_) (fun h => ?_)
  · exact hj_16 S _ _ _   h I (lv_sub hl [] rfl)
  · refine lv_iload_n F.1 F.2.1 dX7_spoon_7 rfl (lv_at hl 2 rfl) ?_
    refine r_if_lt (tgt := 16) F dX7_spoon_8 (by decide) h (fun h => ?_) (fun h => ?_)
    · exact hj_16 S _ _ _   h I (lv_sub hl [] rfl)
    · refine lv_iload_n F.1 F.2.1 dX7_spoon_11 rfl (lv_at hl 2 rfl) ?_
      refine lv_iconst (v := 1) F.1 F.2.1 dX7_spoon_12 (by decide) ?_
      refine r_icmp_le (tgt := 19) F dX7_spoon_13 (by decide) h (fun h => ?_) (fun h => ?_)
      · refine lv_aload_n F.1 F.2.1 dX7_spoon_19 rfl (lv_at hl 0 rfl) ?_
        refine r_getN F I hr_a0 hk_a0 fX7_42 (f := 14) rfl (by decide) dX7_spoon_20 h (fun b7 hr_b7 hk_b7 h => ?_)
        refine lv_iload_n F.1 F.2.1 dX7_spoon_23 rfl (lv_at hl 1 rfl) ?_
        refine r_aldN F I hr_b7 hk_b7 (by decide) (f := 3) rfl dX7_spoon_24 h (fun b8 hr_b8 hk_b8 h => ?_)
        refine lv_astore_n (lv' := [(3, .ref (gz g + b8)), (0, .ref (gz g + a0)), (1, .int a1), (2, .int a2)]) F.1 F.2.1 dX7_spoon_25 rfl hl (by decide) rfl (fun ls hl => ?_)
        refine lv_aload_n F.1 F.2.1 dX7_spoon_26 rfl (lv_at hl 0 rfl) ?_
        refine g_I I (run_V (As := []) (rest := []) F I hr_b8 hk_b8 (by decide) kX7_203 (ctX3_isMissing hr_b8 hk_b8 h) ⟨rfl, rfl⟩ ⟨Nat.le_of_ble_eq_true rfl, Nat.le_of_ble_eq_true rfl⟩ rfl hl.1 rfl (Nat.le_of_ble_eq_true rfl) ⟨Nat.le_of_ble_eq_true rfl, Nat.le_of_ble_eq_true rfl⟩ dX7_spoon_27) (fun z9 S H locs I h => ?_)
        refine r_if_eq (tgt := 36) F dX7_spoon_30 (by decide) h (fun h => ?_) (fun h => ?_)
        · refine lv_aload_n F.1 F.2.1 dX7_spoon_36 rfl (lv_at hl 1 rfl) ?_
          refine r_getN F I hr_a0 hk_a0 fX7_29 (f := 4) rfl (by decide) dX7_spoon_37 h (fun b10 hr_b10 hk_b10 h => ?_)
          refine lv_aload_n F.1 F.2.1 dX7_spoon_40 rfl (lv_at hl 1 rfl) ?_
          refine r_getN F I hr_a0 hk_a0 fX7_10 (f := 0) rfl (by decide) dX7_spoon_41 h (fun b11 hr_b11 hk_b11 h => ?_)
          refine g_V I (run_V (As := [.ref (gz g + b11)]) (rest := []) F I hr_b10 hk_b10 (by decide) kX7_149 (ctX4_workOutAll hr_b10 hk_b10 hr_b11 hk_b11 h) ⟨rfl, rfl⟩ ⟨Nat.le_of_ble_eq_true rfl, Nat.le_of_ble_eq_true rfl⟩ rfl hl.1 rfl (Nat.le_of_ble_eq_true rfl) ⟨Nat.le_of_ble_eq_true rfl, Nat.le_of_ble_eq_true rfl⟩ dX7_spoon_44) (fun S H locs I h => ?_)
          refine lv_ldc F.1 F.2.1 F.2.2.2.1 (F.2.2.2.2 _ tw_534) dX7_spoon_47 ?_
          refine lv_istore (lv' := [(4, .int (-1000000005 : Int32)), (3, .ref (gz g + b8)), (0, .ref (gz g + a0)), (1, .int a1), (2, .int a2)]) F.1 F.2.1 dX7_spoon_49 hl (by decide) rfl (fun ls hl => ?_)
          refine lv_ldc F.1 F.2.1 F.2.2.2.1 (F.2.2.2.2 _ tw_534) dX7_spoon_51 ?_
          refine lv_istore (lv' := [(5, .int (-1000000005 : Int32)), (4, .int (-1000000005 : Int32)), (3, .ref (gz g + b8)), (0, .ref (gz g + a0)), (1, .int a1), (2, .int a2)]) F.1 F.2.1 dX7_spoon_53 hl (by decide) rfl (fun ls hl => ?_)
          refine lv_iconst (v := 0) F.1 F.2.1 dX7_spoon_55 (by decide) ?_
          refine lv_istore (lv' := [(6, .int (0 : Int32)), (5, .int (-1000000005 : Int32)), (4, .int (-1000000005 : Int32)), (3, .ref (gz g + b8)), (0, .ref (gz g + a0)), (1, .int a1), (2, .int a2)]) F.1 F.2.1 dX7_spoon_56 hl (by decide) rfl (fun ls hl => ?_)
          obtain ⟨n58, h⟩ := h
          exact hl_58 n58 S _ _ _ a0 a2 b8 (-1000000005 : Int32) (-1000000005 : Int32) (0 : Int32) hr_a0 hk_a0 hr_b8 hk_b8 h I (lv_sub hl [4, 6, 3, 2, 1, 0] rfl)
        · refine lv_ldc F.1 F.2.1 F.2.2.2.1 (F.2.2.2.2 _ tw_593) dX7_spoon_33 ?_
          exact r_ireturn F I ⟨hr.1, hr.2.1, trivial⟩ h dX7_spoon_35
      · exact hj_16 S _ _ _   h I (lv_sub hl [] rfl)
theorem bdX7_fee_0 : ∀ q ∈ ([(0, .aload_n 0, 1), (1, .getfield 10, 3), (4, .iconst 1, 1), (5, .invokevirtual 211, 3), (8, .astore_n 1, 1), (9, .aload_n 1, 1), (13, .aload_n 0, 1), (14, .getfield 10, 3), (17, .getfield 174, 3), (20, .goto 26, 3), (23, .aload_n 1, 1), (24, .aload_n 0, 1), (25, .getfield 10, 3), (28, .getfield 138, 3), (31, .aload_n 0, 1), (32, .getfield 10, 3), (35, .getfield 174, 3), (38, .iconst 0, 1), (39, .aload_n 0, 1), (40, .getfield 60, 3), (43, .invokevirtual 215, 3), (46, .ireturn, 1)] : List (Nat × Jvm.ClassFile.Instr × Nat)), decode cX7_fee q.1 = .ok q.2 := chk_ok _ 0 _ rfl (by decide +kernel)
theorem dX7_fee_0 : decode cX7_fee 0 = .ok (.aload_n 0, 1) := bdX7_fee_0 (0, .aload_n 0, 1) (List.mem_of_getElem? (i := 0) rfl)
theorem dX7_fee_1 : decode cX7_fee 1 = .ok (.getfield 10, 3) := bdX7_fee_0 (1, .getfield 10, 3) (List.mem_of_getElem? (i := 1) rfl)
theorem dX7_fee_4 : decode cX7_fee 4 = .ok (.iconst 1, 1) := bdX7_fee_0 (4, .iconst 1, 1) (List.mem_of_getElem? (i := 2) rfl)
theorem dX7_fee_5 : decode cX7_fee 5 = .ok (.invokevirtual 211, 3) := bdX7_fee_0 (5, .invokevirtual 211, 3) (List.mem_of_getElem? (i := 3) rfl)
theorem dX7_fee_8 : decode cX7_fee 8 = .ok (.astore_n 1, 1) := bdX7_fee_0 (8, .astore_n 1, 1) (List.mem_of_getElem? (i := 4) rfl)
theorem dX7_fee_9 : decode cX7_fee 9 = .ok (.aload_n 1, 1) := bdX7_fee_0 (9, .aload_n 1, 1) (List.mem_of_getElem? (i := 5) rfl)
theorem dX7_fee_13 : decode cX7_fee 13 = .ok (.aload_n 0, 1) := bdX7_fee_0 (13, .aload_n 0, 1) (List.mem_of_getElem? (i := 6) rfl)
theorem dX7_fee_14 : decode cX7_fee 14 = .ok (.getfield 10, 3) := bdX7_fee_0 (14, .getfield 10, 3) (List.mem_of_getElem? (i := 7) rfl)
theorem dX7_fee_17 : decode cX7_fee 17 = .ok (.getfield 174, 3) := bdX7_fee_0 (17, .getfield 174, 3) (List.mem_of_getElem? (i := 8) rfl)
theorem dX7_fee_20 : decode cX7_fee 20 = .ok (.goto 26, 3) := bdX7_fee_0 (20, .goto 26, 3) (List.mem_of_getElem? (i := 9) rfl)
theorem dX7_fee_23 : decode cX7_fee 23 = .ok (.aload_n 1, 1) := bdX7_fee_0 (23, .aload_n 1, 1) (List.mem_of_getElem? (i := 10) rfl)
theorem dX7_fee_24 : decode cX7_fee 24 = .ok (.aload_n 0, 1) := bdX7_fee_0 (24, .aload_n 0, 1) (List.mem_of_getElem? (i := 11) rfl)
theorem dX7_fee_25 : decode cX7_fee 25 = .ok (.getfield 10, 3) := bdX7_fee_0 (25, .getfield 10, 3) (List.mem_of_getElem? (i := 12) rfl)
theorem dX7_fee_28 : decode cX7_fee 28 = .ok (.getfield 138, 3) := bdX7_fee_0 (28, .getfield 138, 3) (List.mem_of_getElem? (i := 13) rfl)
theorem dX7_fee_31 : decode cX7_fee 31 = .ok (.aload_n 0, 1) := bdX7_fee_0 (31, .aload_n 0, 1) (List.mem_of_getElem? (i := 14) rfl)
theorem dX7_fee_32 : decode cX7_fee 32 = .ok (.getfield 10, 3) := bdX7_fee_0 (32, .getfield 10, 3) (List.mem_of_getElem? (i := 15) rfl)
theorem dX7_fee_35 : decode cX7_fee 35 = .ok (.getfield 174, 3) := bdX7_fee_0 (35, .getfield 174, 3) (List.mem_of_getElem? (i := 16) rfl)
theorem dX7_fee_38 : decode cX7_fee 38 = .ok (.iconst 0, 1) := bdX7_fee_0 (38, .iconst 0, 1) (List.mem_of_getElem? (i := 17) rfl)
theorem dX7_fee_39 : decode cX7_fee 39 = .ok (.aload_n 0, 1) := bdX7_fee_0 (39, .aload_n 0, 1) (List.mem_of_getElem? (i := 18) rfl)
theorem dX7_fee_40 : decode cX7_fee 40 = .ok (.getfield 60, 3) := bdX7_fee_0 (40, .getfield 60, 3) (List.mem_of_getElem? (i := 19) rfl)
theorem dX7_fee_43 : decode cX7_fee 43 = .ok (.invokevirtual 215, 3) := bdX7_fee_0 (43, .invokevirtual 215, 3) (List.mem_of_getElem? (i := 20) rfl)
theorem dX7_fee_46 : decode cX7_fee 46 = .ok (.ireturn, 1) := bdX7_fee_0 (46, .ireturn, 1) (List.mem_of_getElem? (i := 21) rfl)
theorem dX7_fee_10 : decode cX7_fee 10 = .ok (.ifnonnull 13, 3) := by decide +kernel
theorem kX7_211 : mthV RX7 211 0 yX0_lawFor prog_2_method_19_code 3 (Option.some (Jvm.ClassFile.FieldType.object "LionShield$Law")) 1 := ⟨⟨⟨tw_614, tw_61, tw_372⟩, rfl, by decide +kernel⟩, tw_370, tw_371, rfl⟩
theorem fX7_60 : fldOK RX7 60 7 10 (.array .int) true := ⟨_, _, _, tyX7, ⟨rfl, iX7, by decide, rfl, by decide⟩, tw_295, ⟨tyX7_ok, nmX7⟩, by decide +kernel, rfl, rfl⟩
theorem kX7_215 : mthV RX7 215 1 yX1_give prog_3_method_2_code 8 (Option.some Jvm.ClassFile.FieldType.int) 4 := ⟨⟨⟨tw_615, tw_69, tw_406⟩, rfl, by decide +kernel⟩, tw_404, tw_405, rfl⟩
def wpX7_fee (ln : Nat → Nat) (S : HC) (a0 : Nat) (post : Int32 → HC → Prop) : Prop := dn_ (hR S a0 0) fun b1 => wpX0_lawFor ln S b1 (1 : Int32) fun o2 S => cO_ o2 (dn_ (hR S a0 0) fun b4 => lt_ (hI S b4 6) fun z5 => post z5 S) fun b3 => dn_ (hR S a0 0) fun b6 => lt_ (hI S b6 8) fun z7 => dn_ (hR S a0 0) fun b8 => lt_ (hI S b8 6) fun z9 => dn_ (hR S a0 10) fun b10 => wpX1_give ln S b3 z7 z9 (0 : Int32) b10 fun z11 S => post z11 S
abbrev rmX7_fee : Room := { frames := 3, cells := 0, slots := 0, locals := 65 }
set_option maxHeartbeats 4000000 in
set_option maxRecDepth 100000 in
theorem ctX7_fee {l : Launch} {g : GX} {N : Nat} {ln : Nat → Nat} {S : HC} {a0 : Nat} {post : Int32 → HC → Prop} (hr_a0 : a0 < N) (hk_a0 : kd a0 = 7) (h : wpX7_fee ln S a0 post) : Met l yX7_fee (Cond.code yX7_fee prog_1_method_22_code 2 (Option.some Jvm.ClassFile.FieldType.int) :: gtbl) rmX7_fee (va_Pc [.ref (gz g + a0)] (AtP g N ln S)) (QI g N ln post) 0 0 (gF g) := by
  refine m_of (by decide) (Nat.le_of_ble_eq_true rfl) ?_
  intro p e s m below meth c ls F hr I hl
  have hl : lv_has ls 2 [(0, .ref (gz g + a0))] := hl
  unfold wpX7_fee at h
  refine lv_aload_n F.1 F.2.1 dX7_fee_0 rfl (lv_at hl 0 rfl) ?_
  refine r_getN F I hr_a0 hk_a0 fX7_10 (f := 0) rfl (by decide) dX7_fee_1 h (fun b1 hr_b1 hk_b1 h => ?_)
  refine lv_iconst (v := 1) F.1 F.2.1 dX7_fee_4 (by decide) ?_
  refine g_O I (run_V (As := [.int (1 : Int32)]) (rest := []) F I hr_b1 hk_b1 (by decide) kX7_211 (ctX0_lawFor hr_b1 hk_b1 h) ⟨rfl, rfl⟩ ⟨Nat.le_of_ble_eq_true rfl, Nat.le_of_ble_eq_true rfl⟩ rfl hl.1 rfl (Nat.le_of_ble_eq_true rfl) ⟨Nat.le_of_ble_eq_true rfl, Nat.le_of_ble_eq_true rfl⟩ dX7_fee_5) (fun o2 S H locs ho_o2 I h => ?_)
  refine r_astoreO (g := g) (o := o2) (lv1 := [(0, .ref (gz g + a0))]) F (Or.inl ⟨_, dX7_fee_8, rfl, rfl⟩) hl (by decide) rfl (fun ls hl => ?_)
  refine r_aloadO (g := g) (o := o2) F (Or.inl ⟨_, dX7_fee_9, rfl, rfl⟩) (lv_at hl 0 rfl) ?_
  refine r_ifnonnull (tgt := 23) (g := g) F dX7_fee_10 (by decide) h (fun q h => ?_) (fun b3 q h2 => ?_)
  · refine lv_aload_n F.1 F.2.1 dX7_fee_13 rfl (lv_at hl 1 rfl) ?_
    refine r_getN F I hr_a0 hk_a0 fX7_10 (f := 0) rfl (by decide) dX7_fee_14 h (fun b4 hr_b4 hk_b4 h => ?_)
    refine r_getI F I hr_b4 hk_b4 fX7_174 rfl dX7_fee_17 h (fun z5 h => ?_)
    refine lv_goto (tgt := 46) F.1 F.2.1 dX7_fee_20 (by decide) ?_
    exact r_ireturn F I ⟨hr.1, hr.2.1, trivial⟩ h dX7_fee_46
  · obtain ⟨hr_b3, hk_b3⟩ := ho_o2 b3 q
    subst q
    clear h
    have h := h2
    clear h2
    refine lv_aload_n F.1 F.2.1 dX7_fee_23 rfl (lv_at hl 0 rfl) ?_
    refine lv_aload_n F.1 F.2.1 dX7_fee_24 rfl (lv_at hl 1 rfl) ?_
    refine r_getN F I hr_a0 hk_a0 fX7_10 (f := 0) rfl (by decide) dX7_fee_25 h (fun b6 hr_b6 hk_b6 h => ?_)
    refine r_getI F I hr_b6 hk_b6 fX7_138 rfl dX7_fee_28 h (fun z7 h => ?_)
    refine lv_aload_n F.1 F.2.1 dX7_fee_31 rfl (lv_at hl 1 rfl) ?_
    refine r_getN F I hr_a0 hk_a0 fX7_10 (f := 0) rfl (by decide) dX7_fee_32 h (fun b8 hr_b8 hk_b8 h => ?_)
    refine r_getI F I hr_b8 hk_b8 fX7_174 rfl dX7_fee_35 h (fun z9 h => ?_)
    refine lv_iconst (v := 0) F.1 F.2.1 dX7_fee_38 (by decide) ?_
    refine lv_aload_n F.1 F.2.1 dX7_fee_39 rfl (lv_at hl 1 rfl) ?_
    refine r_getN F I hr_a0 hk_a0 fX7_60 (f := 9) rfl (by decide) dX7_fee_40 h (fun b10 hr_b10 hk_b10 h => ?_)
    refine g_I I (run_V (As := [.int z7, .int z9, .int (0 : Int32), .ref (gz g + b10)]) (rest := []) F I hr_b3 hk_b3 (by decide) kX7_215 (ctX1_give hr_b3 hk_b3 hr_b10 hk_b10 h) ⟨rfl, rfl⟩ ⟨Nat.le_of_ble_eq_true rfl, Nat.le_of_ble_eq_true rfl⟩ rfl hl.1 rfl (Nat.le_of_ble_eq_true rfl) ⟨Nat.le_of_ble_eq_true rfl, Nat.le_of_ble_eq_true rfl⟩ dX7_fee_43) (fun z11 S H locs I h => ?_)
    exact r_ireturn F I ⟨hr.1, hr.2.1, trivial⟩ h dX7_fee_46
theorem bdX7_fine_0 : ∀ q ∈ ([(0, .aload_n 0, 1), (1, .getfield 10, 3), (4, .iload_n 1, 1), (5, .invokevirtual 86, 3), (8, .ifCond .ne 6, 3), (11, .ldc 73, 2), (13, .ireturn, 1), (14, .aload_n 0, 1), (15, .getfield 10, 3), (18, .iconst 2, 1), (19, .invokevirtual 211, 3), (22, .astore_n 2, 1), (23, .aload_n 2, 1), (27, .aload_n 0, 1), (28, .getfield 10, 3), (31, .getfield 101, 3), (34, .iload_n 1, 1), (35, .iaload, 1), (36, .ireturn, 1), (37, .aload_n 2, 1), (38, .aload_n 0, 1), (39, .getfield 10, 3), (42, .getfield 101, 3), (45, .iload_n 1, 1), (46, .iaload, 1), (47, .aload_n 0, 1), (48, .getfield 10, 3), (51, .getfield 104, 3), (54, .iload_n 1, 1), (55, .iaload, 1), (56, .invokestatic 195, 3), (59, .iconst 0, 1), (60, .aload_n 0, 1), (61, .getfield 60, 3), (64, .invokevirtual 215, 3), (67, .ireturn, 1)] : List (Nat × Jvm.ClassFile.Instr × Nat)), decode cX7_fine q.1 = .ok q.2 := chk_ok _ 0 _ rfl (by decide +kernel)
theorem dX7_fine_0 : decode cX7_fine 0 = .ok (.aload_n 0, 1) := bdX7_fine_0 (0, .aload_n 0, 1) (List.mem_of_getElem? (i := 0) rfl)
theorem dX7_fine_1 : decode cX7_fine 1 = .ok (.getfield 10, 3) := bdX7_fine_0 (1, .getfield 10, 3) (List.mem_of_getElem? (i := 1) rfl)
theorem dX7_fine_4 : decode cX7_fine 4 = .ok (.iload_n 1, 1) := bdX7_fine_0 (4, .iload_n 1, 1) (List.mem_of_getElem? (i := 2) rfl)
theorem dX7_fine_5 : decode cX7_fine 5 = .ok (.invokevirtual 86, 3) := bdX7_fine_0 (5, .invokevirtual 86, 3) (List.mem_of_getElem? (i := 3) rfl)
theorem dX7_fine_8 : decode cX7_fine 8 = .ok (.ifCond .ne 6, 3) := bdX7_fine_0 (8, .ifCond .ne 6, 3) (List.mem_of_getElem? (i := 4) rfl)
theorem dX7_fine_11 : decode cX7_fine 11 = .ok (.ldc 73, 2) := bdX7_fine_0 (11, .ldc 73, 2) (List.mem_of_getElem? (i := 5) rfl)
theorem dX7_fine_13 : decode cX7_fine 13 = .ok (.ireturn, 1) := bdX7_fine_0 (13, .ireturn, 1) (List.mem_of_getElem? (i := 6) rfl)
theorem dX7_fine_14 : decode cX7_fine 14 = .ok (.aload_n 0, 1) := bdX7_fine_0 (14, .aload_n 0, 1) (List.mem_of_getElem? (i := 7) rfl)
theorem dX7_fine_15 : decode cX7_fine 15 = .ok (.getfield 10, 3) := bdX7_fine_0 (15, .getfield 10, 3) (List.mem_of_getElem? (i := 8) rfl)
theorem dX7_fine_18 : decode cX7_fine 18 = .ok (.iconst 2, 1) := bdX7_fine_0 (18, .iconst 2, 1) (List.mem_of_getElem? (i := 9) rfl)
theorem dX7_fine_19 : decode cX7_fine 19 = .ok (.invokevirtual 211, 3) := bdX7_fine_0 (19, .invokevirtual 211, 3) (List.mem_of_getElem? (i := 10) rfl)
theorem dX7_fine_22 : decode cX7_fine 22 = .ok (.astore_n 2, 1) := bdX7_fine_0 (22, .astore_n 2, 1) (List.mem_of_getElem? (i := 11) rfl)
theorem dX7_fine_23 : decode cX7_fine 23 = .ok (.aload_n 2, 1) := bdX7_fine_0 (23, .aload_n 2, 1) (List.mem_of_getElem? (i := 12) rfl)
theorem dX7_fine_27 : decode cX7_fine 27 = .ok (.aload_n 0, 1) := bdX7_fine_0 (27, .aload_n 0, 1) (List.mem_of_getElem? (i := 13) rfl)
theorem dX7_fine_28 : decode cX7_fine 28 = .ok (.getfield 10, 3) := bdX7_fine_0 (28, .getfield 10, 3) (List.mem_of_getElem? (i := 14) rfl)
theorem dX7_fine_31 : decode cX7_fine 31 = .ok (.getfield 101, 3) := bdX7_fine_0 (31, .getfield 101, 3) (List.mem_of_getElem? (i := 15) rfl)
theorem dX7_fine_34 : decode cX7_fine 34 = .ok (.iload_n 1, 1) := bdX7_fine_0 (34, .iload_n 1, 1) (List.mem_of_getElem? (i := 16) rfl)
theorem dX7_fine_35 : decode cX7_fine 35 = .ok (.iaload, 1) := bdX7_fine_0 (35, .iaload, 1) (List.mem_of_getElem? (i := 17) rfl)
theorem dX7_fine_36 : decode cX7_fine 36 = .ok (.ireturn, 1) := bdX7_fine_0 (36, .ireturn, 1) (List.mem_of_getElem? (i := 18) rfl)
theorem dX7_fine_37 : decode cX7_fine 37 = .ok (.aload_n 2, 1) := bdX7_fine_0 (37, .aload_n 2, 1) (List.mem_of_getElem? (i := 19) rfl)
theorem dX7_fine_38 : decode cX7_fine 38 = .ok (.aload_n 0, 1) := bdX7_fine_0 (38, .aload_n 0, 1) (List.mem_of_getElem? (i := 20) rfl)
theorem dX7_fine_39 : decode cX7_fine 39 = .ok (.getfield 10, 3) := bdX7_fine_0 (39, .getfield 10, 3) (List.mem_of_getElem? (i := 21) rfl)
theorem dX7_fine_42 : decode cX7_fine 42 = .ok (.getfield 101, 3) := bdX7_fine_0 (42, .getfield 101, 3) (List.mem_of_getElem? (i := 22) rfl)
theorem dX7_fine_45 : decode cX7_fine 45 = .ok (.iload_n 1, 1) := bdX7_fine_0 (45, .iload_n 1, 1) (List.mem_of_getElem? (i := 23) rfl)
theorem dX7_fine_46 : decode cX7_fine 46 = .ok (.iaload, 1) := bdX7_fine_0 (46, .iaload, 1) (List.mem_of_getElem? (i := 24) rfl)
theorem dX7_fine_47 : decode cX7_fine 47 = .ok (.aload_n 0, 1) := bdX7_fine_0 (47, .aload_n 0, 1) (List.mem_of_getElem? (i := 25) rfl)
theorem dX7_fine_48 : decode cX7_fine 48 = .ok (.getfield 10, 3) := bdX7_fine_0 (48, .getfield 10, 3) (List.mem_of_getElem? (i := 26) rfl)
theorem dX7_fine_51 : decode cX7_fine 51 = .ok (.getfield 104, 3) := bdX7_fine_0 (51, .getfield 104, 3) (List.mem_of_getElem? (i := 27) rfl)
theorem dX7_fine_54 : decode cX7_fine 54 = .ok (.iload_n 1, 1) := bdX7_fine_0 (54, .iload_n 1, 1) (List.mem_of_getElem? (i := 28) rfl)
theorem dX7_fine_55 : decode cX7_fine 55 = .ok (.iaload, 1) := bdX7_fine_0 (55, .iaload, 1) (List.mem_of_getElem? (i := 29) rfl)
theorem dX7_fine_56 : decode cX7_fine 56 = .ok (.invokestatic 195, 3) := bdX7_fine_0 (56, .invokestatic 195, 3) (List.mem_of_getElem? (i := 30) rfl)
theorem dX7_fine_59 : decode cX7_fine 59 = .ok (.iconst 0, 1) := bdX7_fine_0 (59, .iconst 0, 1) (List.mem_of_getElem? (i := 31) rfl)
theorem dX7_fine_60 : decode cX7_fine 60 = .ok (.aload_n 0, 1) := bdX7_fine_0 (60, .aload_n 0, 1) (List.mem_of_getElem? (i := 32) rfl)
theorem dX7_fine_61 : decode cX7_fine 61 = .ok (.getfield 60, 3) := bdX7_fine_0 (61, .getfield 60, 3) (List.mem_of_getElem? (i := 33) rfl)
theorem dX7_fine_64 : decode cX7_fine 64 = .ok (.invokevirtual 215, 3) := bdX7_fine_0 (64, .invokevirtual 215, 3) (List.mem_of_getElem? (i := 34) rfl)
theorem dX7_fine_67 : decode cX7_fine 67 = .ok (.ireturn, 1) := bdX7_fine_0 (67, .ireturn, 1) (List.mem_of_getElem? (i := 35) rfl)
theorem dX7_fine_24 : decode cX7_fine 24 = .ok (.ifnonnull 13, 3) := by decide +kernel
def wpX7_fine (ln : Nat → Nat) (S : HC) (a0 : Nat) (a1 : Int32) (post : Int32 → HC → Prop) : Prop := dn_ (hR S a0 0) fun b1 => wpX0_has ln S b1 a1 fun z2 S => if z2 = 0 then (post (-1000000001 : Int32) S) else (dn_ (hR S a0 0) fun b3 => wpX0_lawFor ln S b3 (2 : Int32) fun o4 S => cO_ o4 (dn_ (hR S a0 0) fun b6 => dn_ (hR S b6 4) fun b7 => al_ (ln b7) a1 (hI S b7) fun z8 => post z8 S) fun b5 => dn_ (hR S a0 0) fun b9 => dn_ (hR S b9 4) fun b10 => al_ (ln b10) a1 (hI S b10) fun z11 => dn_ (hR S a0 0) fun b12 => dn_ (hR S b12 5) fun b13 => al_ (ln b13) a1 (hI S b13) fun z14 => wpJ6_bitCount_0f7a4 ln S z14 fun z15 S => dn_ (hR S a0 10) fun b16 => wpX1_give ln S b5 z11 z15 (0 : Int32) b16 fun z17 S => post z17 S)
abbrev rmX7_fine : Room := { frames := 3, cells := 0, slots := 0, locals := 65 }
set_option maxHeartbeats 4000000 in
set_option maxRecDepth 100000 in
theorem ctX7_fine {l : Launch} {g : GX} {N : Nat} {ln : Nat → Nat} {S : HC} {a0 : Nat} {a1 : Int32} {post : Int32 → HC → Prop} (hr_a0 : a0 < N) (hk_a0 : kd a0 = 7) (h : wpX7_fine ln S a0 a1 post) : Met l yX7_fine (Cond.code yX7_fine prog_1_method_23_code 3 (Option.some Jvm.ClassFile.FieldType.int) :: gtbl) rmX7_fine (va_Pc [.ref (gz g + a0), .int a1] (AtP g N ln S)) (QI g N ln post) 0 0 (gF g) := by
  refine m_of (by decide) (Nat.le_of_ble_eq_true rfl) ?_
  intro p e s m below meth c ls F hr I hl
  have hl : lv_has ls 3 [(0, .ref (gz g + a0)), (1, .int a1)] := hl
  unfold wpX7_fine at h
  refine lv_aload_n F.1 F.2.1 dX7_fine_0 rfl (lv_at hl 0 rfl) ?_
  refine r_getN F I hr_a0 hk_a0 fX7_10 (f := 0) rfl (by decide) dX7_fine_1 h (fun b1 hr_b1 hk_b1 h => ?_)
  refine lv_iload_n F.1 F.2.1 dX7_fine_4 rfl (lv_at hl 1 rfl) ?_
  refine g_I I (run_V (As := [.int a1]) (rest := []) F I hr_b1 hk_b1 (by decide) kX7_86 (ctX0_has hr_b1 hk_b1 h) ⟨rfl, rfl⟩ ⟨Nat.le_of_ble_eq_true rfl, Nat.le_of_ble_eq_true rfl⟩ rfl hl.1 rfl (Nat.le_of_ble_eq_true rfl) ⟨Nat.le_of_ble_eq_true rfl, Nat.le_of_ble_eq_true rfl⟩ dX7_fine_5) (fun z2 S H locs I h => ?_)
  refine r_if_ne (tgt := 14) F dX7_fine_8 (by decide) h (fun h => ?_) (fun h => ?_)
  · refine lv_aload_n F.1 F.2.1 dX7_fine_14 rfl (lv_at hl 0 rfl) ?_
    refine r_getN F I hr_a0 hk_a0 fX7_10 (f := 0) rfl (by decide) dX7_fine_15 h (fun b3 hr_b3 hk_b3 h => ?_)
    refine lv_iconst (v := 2) F.1 F.2.1 dX7_fine_18 (by decide) ?_
    refine g_O I (run_V (As := [.int (2 : Int32)]) (rest := []) F I hr_b3 hk_b3 (by decide) kX7_211 (ctX0_lawFor hr_b3 hk_b3 h) ⟨rfl, rfl⟩ ⟨Nat.le_of_ble_eq_true rfl, Nat.le_of_ble_eq_true rfl⟩ rfl hl.1 rfl (Nat.le_of_ble_eq_true rfl) ⟨Nat.le_of_ble_eq_true rfl, Nat.le_of_ble_eq_true rfl⟩ dX7_fine_19) (fun o4 S H locs ho_o4 I h => ?_)
    refine r_astoreO (g := g) (o := o4) (lv1 := [(0, .ref (gz g + a0)), (1, .int a1)]) F (Or.inl ⟨_, dX7_fine_22, rfl, rfl⟩) hl (by decide) rfl (fun ls hl => ?_)
    refine r_aloadO (g := g) (o := o4) F (Or.inl ⟨_, dX7_fine_23, rfl, rfl⟩) (lv_at hl 0 rfl) ?_
    refine r_ifnonnull (tgt := 37) (g := g) F dX7_fine_24 (by decide) h (fun q h => ?_) (fun b5 q h2 => ?_)
    · refine lv_aload_n F.1 F.2.1 dX7_fine_27 rfl (lv_at hl 1 rfl) ?_
      refine r_getN F I hr_a0 hk_a0 fX7_10 (f := 0) rfl (by decide) dX7_fine_28 h (fun b6 hr_b6 hk_b6 h => ?_)
      refine r_getN F I hr_b6 hk_b6 fX7_101 (f := 9) rfl (by decide) dX7_fine_31 h (fun b7 hr_b7 hk_b7 h => ?_)
      refine lv_iload_n F.1 F.2.1 dX7_fine_34 rfl (lv_at hl 2 rfl) ?_
      refine r_ald F I hr_b7 hk_b7 dX7_fine_35 h (fun z8 h => ?_)
      exact r_ireturn F I ⟨hr.1, hr.2.1, trivial⟩ h dX7_fine_36
    · obtain ⟨hr_b5, hk_b5⟩ := ho_o4 b5 q
      subst q
      clear h
      have h := h2
      clear h2
      refine lv_aload_n F.1 F.2.1 dX7_fine_37 rfl (lv_at hl 0 rfl) ?_
      refine lv_aload_n F.1 F.2.1 dX7_fine_38 rfl (lv_at hl 1 rfl) ?_
      refine r_getN F I hr_a0 hk_a0 fX7_10 (f := 0) rfl (by decide) dX7_fine_39 h (fun b9 hr_b9 hk_b9 h => ?_)
      refine r_getN F I hr_b9 hk_b9 fX7_101 (f := 9) rfl (by decide) dX7_fine_42 h (fun b10 hr_b10 hk_b10 h => ?_)
      refine lv_iload_n F.1 F.2.1 dX7_fine_45 rfl (lv_at hl 2 rfl) ?_
      refine r_ald F I hr_b10 hk_b10 dX7_fine_46 h (fun z11 h => ?_)
      refine lv_aload_n F.1 F.2.1 dX7_fine_47 rfl (lv_at hl 1 rfl) ?_
      refine r_getN F I hr_a0 hk_a0 fX7_10 (f := 0) rfl (by decide) dX7_fine_48 h (fun b12 hr_b12 hk_b12 h => ?_)
      refine r_getN F I hr_b12 hk_b12 fX7_104 (f := 9) rfl (by decide) dX7_fine_51 h (fun b13 hr_b13 hk_b13 h => ?_)
      refine lv_iload_n F.1 F.2.1 dX7_fine_54 rfl (lv_at hl 2 rfl) ?_
      refine r_ald F I hr_b13 hk_b13 dX7_fine_55 h (fun z14 h => ?_)
      refine g_I I (run_S (As := [.int z14]) (rest := [.int z11, .ref (gz g + b5)]) F I kX7_195 (ctJ6_bitCount_0f7a4 h) ⟨rfl, rfl⟩ ⟨Nat.le_of_ble_eq_true rfl, Nat.le_of_ble_eq_true rfl⟩ rfl hl.1 rfl (Nat.le_of_ble_eq_true rfl) ⟨Nat.le_of_ble_eq_true rfl, Nat.le_of_ble_eq_true rfl⟩ dX7_fine_56) (fun z15 S H locs I h => ?_)
      refine lv_iconst (v := 0) F.1 F.2.1 dX7_fine_59 (by decide) ?_
      refine lv_aload_n F.1 F.2.1 dX7_fine_60 rfl (lv_at hl 1 rfl) ?_
      refine r_getN F I hr_a0 hk_a0 fX7_60 (f := 9) rfl (by decide) dX7_fine_61 h (fun b16 hr_b16 hk_b16 h => ?_)
      refine g_I I (run_V (As := [.int z11, .int z15, .int (0 : Int32), .ref (gz g + b16)]) (rest := []) F I hr_b5 hk_b5 (by decide) kX7_215 (ctX1_give hr_b5 hk_b5 hr_b16 hk_b16 h) ⟨rfl, rfl⟩ ⟨Nat.le_of_ble_eq_true rfl, Nat.le_of_ble_eq_true rfl⟩ rfl hl.1 rfl (Nat.le_of_ble_eq_true rfl) ⟨Nat.le_of_ble_eq_true rfl, Nat.le_of_ble_eq_true rfl⟩ dX7_fine_64) (fun z17 S H locs I h => ?_)
      exact r_ireturn F I ⟨hr.1, hr.2.1, trivial⟩ h dX7_fine_67
  · refine lv_ldc F.1 F.2.1 F.2.2.2.1 (F.2.2.2.2 _ tw_334) dX7_fine_11 ?_
    exact r_ireturn F I ⟨hr.1, hr.2.1, trivial⟩ h dX7_fine_13
theorem bdX7_feed_0 : ∀ q ∈ ([(0, .aload_n 0, 1), (1, .getfield 36, 3), (4, .getfield 221, 3), (9, .aload 4, 2), (11, .getfield 225, 3), (14, .bipush 84, 2), (16, .if_icmp .le 6, 3), (19, .ldc 81, 2), (21, .ireturn, 1), (22, .aload 4, 2), (24, .iload_n 1, 1), (25, .invokevirtual 230, 3), (28, .aload 4, 2), (30, .iload_n 2, 1), (31, .invokevirtual 230, 3), (34, .aload 4, 2), (36, .iload_n 3, 1), (37, .invokevirtual 230, 3), (40, .aload 4, 2), (42, .getfield 225, 3), (45, .ireturn, 1)] : List (Nat × Jvm.ClassFile.Instr × Nat)), decode cX7_feed q.1 = .ok q.2 := chk_ok _ 0 _ rfl (by decide +kernel)
theorem dX7_feed_0 : decode cX7_feed 0 = .ok (.aload_n 0, 1) := bdX7_feed_0 (0, .aload_n 0, 1) (List.mem_of_getElem? (i := 0) rfl)
theorem dX7_feed_1 : decode cX7_feed 1 = .ok (.getfield 36, 3) := bdX7_feed_0 (1, .getfield 36, 3) (List.mem_of_getElem? (i := 1) rfl)
theorem dX7_feed_4 : decode cX7_feed 4 = .ok (.getfield 221, 3) := bdX7_feed_0 (4, .getfield 221, 3) (List.mem_of_getElem? (i := 2) rfl)
theorem dX7_feed_9 : decode cX7_feed 9 = .ok (.aload 4, 2) := bdX7_feed_0 (9, .aload 4, 2) (List.mem_of_getElem? (i := 3) rfl)
theorem dX7_feed_11 : decode cX7_feed 11 = .ok (.getfield 225, 3) := bdX7_feed_0 (11, .getfield 225, 3) (List.mem_of_getElem? (i := 4) rfl)
theorem dX7_feed_14 : decode cX7_feed 14 = .ok (.bipush 84, 2) := bdX7_feed_0 (14, .bipush 84, 2) (List.mem_of_getElem? (i := 5) rfl)
theorem dX7_feed_16 : decode cX7_feed 16 = .ok (.if_icmp .le 6, 3) := bdX7_feed_0 (16, .if_icmp .le 6, 3) (List.mem_of_getElem? (i := 6) rfl)
theorem dX7_feed_19 : decode cX7_feed 19 = .ok (.ldc 81, 2) := bdX7_feed_0 (19, .ldc 81, 2) (List.mem_of_getElem? (i := 7) rfl)
theorem dX7_feed_21 : decode cX7_feed 21 = .ok (.ireturn, 1) := bdX7_feed_0 (21, .ireturn, 1) (List.mem_of_getElem? (i := 8) rfl)
theorem dX7_feed_22 : decode cX7_feed 22 = .ok (.aload 4, 2) := bdX7_feed_0 (22, .aload 4, 2) (List.mem_of_getElem? (i := 9) rfl)
theorem dX7_feed_24 : decode cX7_feed 24 = .ok (.iload_n 1, 1) := bdX7_feed_0 (24, .iload_n 1, 1) (List.mem_of_getElem? (i := 10) rfl)
theorem dX7_feed_25 : decode cX7_feed 25 = .ok (.invokevirtual 230, 3) := bdX7_feed_0 (25, .invokevirtual 230, 3) (List.mem_of_getElem? (i := 11) rfl)
theorem dX7_feed_28 : decode cX7_feed 28 = .ok (.aload 4, 2) := bdX7_feed_0 (28, .aload 4, 2) (List.mem_of_getElem? (i := 12) rfl)
theorem dX7_feed_30 : decode cX7_feed 30 = .ok (.iload_n 2, 1) := bdX7_feed_0 (30, .iload_n 2, 1) (List.mem_of_getElem? (i := 13) rfl)
theorem dX7_feed_31 : decode cX7_feed 31 = .ok (.invokevirtual 230, 3) := bdX7_feed_0 (31, .invokevirtual 230, 3) (List.mem_of_getElem? (i := 14) rfl)
theorem dX7_feed_34 : decode cX7_feed 34 = .ok (.aload 4, 2) := bdX7_feed_0 (34, .aload 4, 2) (List.mem_of_getElem? (i := 15) rfl)
theorem dX7_feed_36 : decode cX7_feed 36 = .ok (.iload_n 3, 1) := bdX7_feed_0 (36, .iload_n 3, 1) (List.mem_of_getElem? (i := 16) rfl)
theorem dX7_feed_37 : decode cX7_feed 37 = .ok (.invokevirtual 230, 3) := bdX7_feed_0 (37, .invokevirtual 230, 3) (List.mem_of_getElem? (i := 17) rfl)
theorem dX7_feed_40 : decode cX7_feed 40 = .ok (.aload 4, 2) := bdX7_feed_0 (40, .aload 4, 2) (List.mem_of_getElem? (i := 18) rfl)
theorem dX7_feed_42 : decode cX7_feed 42 = .ok (.getfield 225, 3) := bdX7_feed_0 (42, .getfield 225, 3) (List.mem_of_getElem? (i := 19) rfl)
theorem dX7_feed_45 : decode cX7_feed 45 = .ok (.ireturn, 1) := bdX7_feed_0 (45, .ireturn, 1) (List.mem_of_getElem? (i := 20) rfl)
theorem dX7_feed_7 : decode cX7_feed 7 = .ok (.astore 4, 2) := by decide +kernel
theorem fX7_36 : fldOK RX7 36 7 5 (.object "LionShield$Reader") true := ⟨_, _, _, tyX7, ⟨rfl, iX7, by decide, rfl, by decide⟩, tw_290, ⟨tyX7_ok, nmX7⟩, by decide +kernel, rfl, rfl⟩
theorem fX7_221 : fldOK RX7 221 2 0 (.object "LionShield$Tape") true := ⟨_, _, _, tyX2, ⟨rfl, iX2, by decide, rfl, by decide⟩, tw_199, ⟨tyX2_ok, nmX2⟩, by decide +kernel, rfl, rfl⟩
theorem fX7_225 : fldOK RX7 225 6 1 .int false := ⟨_, _, _, tyX6, ⟨rfl, iX6, by decide, rfl, by decide⟩, tw_192, ⟨tyX6_ok, nmX6⟩, by decide +kernel, rfl, rfl⟩
theorem kX7_230 : mthV RX7 230 6 yX6_take prog_8_method_2_code 3 (Option.none : Option Jvm.ClassFile.FieldType) 1 := ⟨⟨⟨tw_624, tw_64, tw_627⟩, rfl, by decide +kernel⟩, tw_625, tw_626, rfl⟩
def wpX7_feed (ln : Nat → Nat) (S : HC) (a0 : Nat) (a1 : Int32) (a2 : Int32) (a3 : Int32) (post : Int32 → HC → Prop) : Prop := dn_ (hR S a0 5) fun b1 => dn_ (hR S b1 0) fun b2 => lt_ (hI S b2 1) fun z3 => if z3 ≤ (84 : Int32) then (wpX6_take ln S b2 a1 fun S => wpX6_take ln S b2 a2 fun S => wpX6_take ln S b2 a3 fun S => lt_ (hI S b2 1) fun z4 => post z4 S) else (post (-1000000003 : Int32) S)
abbrev rmX7_feed : Room := { frames := 1, cells := 0, slots := 0, locals := 22 }
set_option maxHeartbeats 4000000 in
set_option maxRecDepth 100000 in
theorem ctX7_feed {l : Launch} {g : GX} {N : Nat} {ln : Nat → Nat} {S : HC} {a0 : Nat} {a1 : Int32} {a2 : Int32} {a3 : Int32} {post : Int32 → HC → Prop} (hr_a0 : a0 < N) (hk_a0 : kd a0 = 7) (h : wpX7_feed ln S a0 a1 a2 a3 post) : Met l yX7_feed (Cond.code yX7_feed prog_1_method_24_code 5 (Option.some Jvm.ClassFile.FieldType.int) :: gtbl) rmX7_feed (va_Pc [.ref (gz g + a0), .int a1, .int a2, .int a3] (AtP g N ln S)) (QI g N ln post) 0 0 (gF g) := by
  refine m_of (by decide) (Nat.le_of_ble_eq_true rfl) ?_
  intro p e s m below meth c ls F hr I hl
  have hl : lv_has ls 5 [(0, .ref (gz g + a0)), (1, .int a1), (2, .int a2), (3, .int a3)] := hl
  unfold wpX7_feed at h
  refine lv_aload_n F.1 F.2.1 dX7_feed_0 rfl (lv_at hl 0 rfl) ?_
  refine r_getN F I hr_a0 hk_a0 fX7_36 (f := 2) rfl (by decide) dX7_feed_1 h (fun b1 hr_b1 hk_b1 h => ?_)
  refine r_getN F I hr_b1 hk_b1 fX7_221 (f := 6) rfl (by decide) dX7_feed_4 h (fun b2 hr_b2 hk_b2 h => ?_)
  refine lv_astore (lv' := [(4, .ref (gz g + b2)), (0, .ref (gz g + a0)), (1, .int a1), (2, .int a2), (3, .int a3)]) F.1 F.2.1 dX7_feed_7 hl (by decide) rfl (fun ls hl => ?_)
  refine lv_aload F.1 F.2.1 dX7_feed_9 (lv_at hl 0 rfl) ?_
  refine r_getI F I hr_b2 hk_b2 fX7_225 rfl dX7_feed_11 h (fun z3 h => ?_)
  refine lv_bipush (v := 84) F.1 F.2.1 dX7_feed_14 (by decide) ?_
  refine r_icmp_le (tgt := 22) F dX7_feed_16 (by decide) h (fun h => ?_) (fun h => ?_)
  · refine lv_aload F.1 F.2.1 dX7_feed_22 (lv_at hl 0 rfl) ?_
    refine lv_iload_n F.1 F.2.1 dX7_feed_24 rfl (lv_at hl 2 rfl) ?_
    refine g_V I (run_V (As := [.int a1]) (rest := []) F I hr_b2 hk_b2 (by decide) kX7_230 (ctX6_take hr_b2 hk_b2 h) ⟨rfl, rfl⟩ ⟨Nat.le_of_ble_eq_true rfl, Nat.le_of_ble_eq_true rfl⟩ rfl hl.1 rfl (Nat.le_of_ble_eq_true rfl) ⟨Nat.le_of_ble_eq_true rfl, Nat.le_of_ble_eq_true rfl⟩ dX7_feed_25) (fun S H locs I h => ?_)
    refine lv_aload F.1 F.2.1 dX7_feed_28 (lv_at hl 0 rfl) ?_
    refine lv_iload_n F.1 F.2.1 dX7_feed_30 rfl (lv_at hl 3 rfl) ?_
    refine g_V I (run_V (As := [.int a2]) (rest := []) F I hr_b2 hk_b2 (by decide) kX7_230 (ctX6_take hr_b2 hk_b2 h) ⟨rfl, rfl⟩ ⟨Nat.le_of_ble_eq_true rfl, Nat.le_of_ble_eq_true rfl⟩ rfl hl.1 rfl (Nat.le_of_ble_eq_true rfl) ⟨Nat.le_of_ble_eq_true rfl, Nat.le_of_ble_eq_true rfl⟩ dX7_feed_31) (fun S H locs I h => ?_)
    refine lv_aload F.1 F.2.1 dX7_feed_34 (lv_at hl 0 rfl) ?_
    refine lv_iload_n F.1 F.2.1 dX7_feed_36 rfl (lv_at hl 4 rfl) ?_
    refine g_V I (run_V (As := [.int a3]) (rest := []) F I hr_b2 hk_b2 (by decide) kX7_230 (ctX6_take hr_b2 hk_b2 h) ⟨rfl, rfl⟩ ⟨Nat.le_of_ble_eq_true rfl, Nat.le_of_ble_eq_true rfl⟩ rfl hl.1 rfl (Nat.le_of_ble_eq_true rfl) ⟨Nat.le_of_ble_eq_true rfl, Nat.le_of_ble_eq_true rfl⟩ dX7_feed_37) (fun S H locs I h => ?_)
    refine lv_aload F.1 F.2.1 dX7_feed_40 (lv_at hl 0 rfl) ?_
    refine r_getI F I hr_b2 hk_b2 fX7_225 rfl dX7_feed_42 h (fun z4 h => ?_)
    exact r_ireturn F I ⟨hr.1, hr.2.1, trivial⟩ h dX7_feed_45
  · refine lv_ldc F.1 F.2.1 F.2.2.2.1 (F.2.2.2.2 _ tw_342) dX7_feed_19 ?_
    exact r_ireturn F I ⟨hr.1, hr.2.1, trivial⟩ h dX7_feed_21
theorem bdX7_trim_0 : ∀ q ∈ ([(0, .iload_n 1, 1), (1, .ifCond .lt 17, 3), (4, .iload_n 1, 1), (5, .aload_n 0, 1), (6, .getfield 36, 3), (9, .getfield 221, 3), (12, .getfield 225, 3), (15, .if_icmp .le 6, 3), (18, .ldc 73, 2), (20, .ireturn, 1), (21, .aload_n 0, 1), (22, .getfield 36, 3), (25, .getfield 221, 3), (28, .iload_n 1, 1), (29, .putfield 225, 3), (32, .iload_n 1, 1), (33, .ireturn, 1)] : List (Nat × Jvm.ClassFile.Instr × Nat)), decode cX7_trim q.1 = .ok q.2 := chk_ok _ 0 _ rfl (by decide +kernel)
theorem dX7_trim_0 : decode cX7_trim 0 = .ok (.iload_n 1, 1) := bdX7_trim_0 (0, .iload_n 1, 1) (List.mem_of_getElem? (i := 0) rfl)
theorem dX7_trim_1 : decode cX7_trim 1 = .ok (.ifCond .lt 17, 3) := bdX7_trim_0 (1, .ifCond .lt 17, 3) (List.mem_of_getElem? (i := 1) rfl)
theorem dX7_trim_4 : decode cX7_trim 4 = .ok (.iload_n 1, 1) := bdX7_trim_0 (4, .iload_n 1, 1) (List.mem_of_getElem? (i := 2) rfl)
theorem dX7_trim_5 : decode cX7_trim 5 = .ok (.aload_n 0, 1) := bdX7_trim_0 (5, .aload_n 0, 1) (List.mem_of_getElem? (i := 3) rfl)
theorem dX7_trim_6 : decode cX7_trim 6 = .ok (.getfield 36, 3) := bdX7_trim_0 (6, .getfield 36, 3) (List.mem_of_getElem? (i := 4) rfl)
theorem dX7_trim_9 : decode cX7_trim 9 = .ok (.getfield 221, 3) := bdX7_trim_0 (9, .getfield 221, 3) (List.mem_of_getElem? (i := 5) rfl)
theorem dX7_trim_12 : decode cX7_trim 12 = .ok (.getfield 225, 3) := bdX7_trim_0 (12, .getfield 225, 3) (List.mem_of_getElem? (i := 6) rfl)
theorem dX7_trim_15 : decode cX7_trim 15 = .ok (.if_icmp .le 6, 3) := bdX7_trim_0 (15, .if_icmp .le 6, 3) (List.mem_of_getElem? (i := 7) rfl)
theorem dX7_trim_18 : decode cX7_trim 18 = .ok (.ldc 73, 2) := bdX7_trim_0 (18, .ldc 73, 2) (List.mem_of_getElem? (i := 8) rfl)
theorem dX7_trim_20 : decode cX7_trim 20 = .ok (.ireturn, 1) := bdX7_trim_0 (20, .ireturn, 1) (List.mem_of_getElem? (i := 9) rfl)
theorem dX7_trim_21 : decode cX7_trim 21 = .ok (.aload_n 0, 1) := bdX7_trim_0 (21, .aload_n 0, 1) (List.mem_of_getElem? (i := 10) rfl)
theorem dX7_trim_22 : decode cX7_trim 22 = .ok (.getfield 36, 3) := bdX7_trim_0 (22, .getfield 36, 3) (List.mem_of_getElem? (i := 11) rfl)
theorem dX7_trim_25 : decode cX7_trim 25 = .ok (.getfield 221, 3) := bdX7_trim_0 (25, .getfield 221, 3) (List.mem_of_getElem? (i := 12) rfl)
theorem dX7_trim_28 : decode cX7_trim 28 = .ok (.iload_n 1, 1) := bdX7_trim_0 (28, .iload_n 1, 1) (List.mem_of_getElem? (i := 13) rfl)
theorem dX7_trim_29 : decode cX7_trim 29 = .ok (.putfield 225, 3) := bdX7_trim_0 (29, .putfield 225, 3) (List.mem_of_getElem? (i := 14) rfl)
theorem dX7_trim_32 : decode cX7_trim 32 = .ok (.iload_n 1, 1) := bdX7_trim_0 (32, .iload_n 1, 1) (List.mem_of_getElem? (i := 15) rfl)
theorem dX7_trim_33 : decode cX7_trim 33 = .ok (.ireturn, 1) := bdX7_trim_0 (33, .ireturn, 1) (List.mem_of_getElem? (i := 16) rfl)
def BX7_trim_18 (ln : Nat → Nat) (post : Int32 → HC → Prop) (S : HC)  : Prop := post (-1000000001 : Int32) S
def wpX7_trim (ln : Nat → Nat) (S : HC) (a0 : Nat) (a1 : Int32) (post : Int32 → HC → Prop) : Prop := if a1 < 0 then (BX7_trim_18 ln post S) else (dn_ (hR S a0 5) fun b1 => dn_ (hR S b1 0) fun b2 => lt_ (hI S b2 1) fun z3 => if a1 ≤ z3 then (dn_ (hR S a0 5) fun b4 => dn_ (hR S b4 0) fun b5 => lt_ (sI S b5 1 a1) fun S => post a1 S) else (BX7_trim_18 ln post S))
abbrev rmX7_trim : Room := { frames := 0, cells := 0, slots := 0, locals := 0 }
set_option maxHeartbeats 4000000 in
set_option maxRecDepth 100000 in
theorem ctX7_trim {l : Launch} {g : GX} {N : Nat} {ln : Nat → Nat} {S : HC} {a0 : Nat} {a1 : Int32} {post : Int32 → HC → Prop} (hr_a0 : a0 < N) (hk_a0 : kd a0 = 7) (h : wpX7_trim ln S a0 a1 post) : Met l yX7_trim (Cond.code yX7_trim prog_1_method_25_code 2 (Option.some Jvm.ClassFile.FieldType.int) :: gtbl) rmX7_trim (va_Pc [.ref (gz g + a0), .int a1] (AtP g N ln S)) (QI g N ln post) 0 0 (gF g) := by
  refine m_of (by decide) (Nat.le_of_ble_eq_true rfl) ?_
  intro p e s m below meth c ls F hr I hl
  have hl : lv_has ls 2 [(0, .ref (gz g + a0)), (1, .int a1)] := hl
  unfold wpX7_trim at h
  have hj_18 : ∀ (S : HC) (H : Heap) (locs : List Loc) (ls : Array Slot), BX7_trim_18 ln post S  → Inv g N ln S s H locs → lv_has ls 2 [] → W p l e rmX7_trim s m ([.ref (gz g + a0), .int a1] : List Value).toArray below meth c H locs 0 0 (MQ below (QI g N ln post) ([.ref (gz g + a0), .int a1] : List Value).toArray s 0 0 (gF g)) (F0 m 18 ls []) := by
    intro S H locs ls h I hl
    unfold BX7_trim_18 at h
    refine lv_ldc F.1 F.2.1 F.2.2.2.1 (F.2.2.2.2 _ tw_334) dX7_trim_18 ?_
    exact r_ireturn F I ⟨hr.1, hr.2.1, trivial⟩ h dX7_trim_20
  refine lv_iload_n F.1 F.2.1 dX7_trim_0 rfl (lv_at hl 1 rfl) ?_
  refine r_if_lt (tgt := 18) F dX7_trim_1 (by decide) h (fun h => ?_) (fun h => ?_)
  · exact hj_18 S _ _ _   h I (lv_sub hl [] rfl)
  · refine lv_iload_n F.1 F.2.1 dX7_trim_4 rfl (lv_at hl 1 rfl) ?_
    refine lv_aload_n F.1 F.2.1 dX7_trim_5 rfl (lv_at hl 0 rfl) ?_
    refine r_getN F I hr_a0 hk_a0 fX7_36 (f := 2) rfl (by decide) dX7_trim_6 h (fun b1 hr_b1 hk_b1 h => ?_)
    refine r_getN F I hr_b1 hk_b1 fX7_221 (f := 6) rfl (by decide) dX7_trim_9 h (fun b2 hr_b2 hk_b2 h => ?_)
    refine r_getI F I hr_b2 hk_b2 fX7_225 rfl dX7_trim_12 h (fun z3 h => ?_)
    refine r_icmp_le (tgt := 21) F dX7_trim_15 (by decide) h (fun h => ?_) (fun h => ?_)
    · refine lv_aload_n F.1 F.2.1 dX7_trim_21 rfl (lv_at hl 0 rfl) ?_
      refine r_getN F I hr_a0 hk_a0 fX7_36 (f := 2) rfl (by decide) dX7_trim_22 h (fun b4 hr_b4 hk_b4 h => ?_)
      refine r_getN F I hr_b4 hk_b4 fX7_221 (f := 6) rfl (by decide) dX7_trim_25 h (fun b5 hr_b5 hk_b5 h => ?_)
      refine lv_iload_n F.1 F.2.1 dX7_trim_28 rfl (lv_at hl 1 rfl) ?_
      refine r_putI F I hr_b5 hk_b5 fX7_225 rfl (Or.inl rfl) ⟨rfl, rfl⟩ dX7_trim_29 h (fun S H locs I h => ?_)
      refine lv_iload_n F.1 F.2.1 dX7_trim_32 rfl (lv_at hl 1 rfl) ?_
      exact r_ireturn F I ⟨hr.1, hr.2.1, trivial⟩ h dX7_trim_33
    · exact hj_18 S _ _ _   h I (lv_sub hl [] rfl)
theorem bdX7_textTold_0 : ∀ q ∈ ([(0, .iload_n 1, 1), (1, .ifCond .lt 29, 3), (4, .iload_n 1, 1), (5, .aload_n 0, 1), (6, .getfield 10, 3), (9, .getfield 239, 3), (12, .if_icmp .ge 18, 3), (15, .iload_n 1, 1), (16, .bipush 14, 2), (18, .if_icmp .ge 12, 3), (21, .iload_n 2, 1), (22, .ifCond .lt 8, 3), (25, .iload_n 2, 1), (26, .iconst 1, 1), (27, .if_icmp .le 6, 3), (30, .ldc 73, 2), (32, .ireturn, 1), (33, .aload_n 0, 1), (34, .getfield 10, 3), (37, .getfield 242, 3), (40, .iload_n 1, 1), (41, .aaload, 1), (42, .astore_n 3, 1), (43, .aload_n 3, 1), (47, .ldc 73, 2), (49, .ireturn, 1), (50, .iload_n 2, 1), (51, .ifCond .ne 10, 3), (54, .aload_n 3, 1), (55, .getfield 250, 3), (58, .goto 7, 3), (61, .aload_n 3, 1), (62, .getfield 253, 3), (65, .ireturn, 1)] : List (Nat × Jvm.ClassFile.Instr × Nat)), decode cX7_textTold q.1 = .ok q.2 := chk_ok _ 0 _ rfl (by decide +kernel)
theorem dX7_textTold_0 : decode cX7_textTold 0 = .ok (.iload_n 1, 1) := bdX7_textTold_0 (0, .iload_n 1, 1) (List.mem_of_getElem? (i := 0) rfl)
theorem dX7_textTold_1 : decode cX7_textTold 1 = .ok (.ifCond .lt 29, 3) := bdX7_textTold_0 (1, .ifCond .lt 29, 3) (List.mem_of_getElem? (i := 1) rfl)
theorem dX7_textTold_4 : decode cX7_textTold 4 = .ok (.iload_n 1, 1) := bdX7_textTold_0 (4, .iload_n 1, 1) (List.mem_of_getElem? (i := 2) rfl)
theorem dX7_textTold_5 : decode cX7_textTold 5 = .ok (.aload_n 0, 1) := bdX7_textTold_0 (5, .aload_n 0, 1) (List.mem_of_getElem? (i := 3) rfl)
theorem dX7_textTold_6 : decode cX7_textTold 6 = .ok (.getfield 10, 3) := bdX7_textTold_0 (6, .getfield 10, 3) (List.mem_of_getElem? (i := 4) rfl)
theorem dX7_textTold_9 : decode cX7_textTold 9 = .ok (.getfield 239, 3) := bdX7_textTold_0 (9, .getfield 239, 3) (List.mem_of_getElem? (i := 5) rfl)
theorem dX7_textTold_12 : decode cX7_textTold 12 = .ok (.if_icmp .ge 18, 3) := bdX7_textTold_0 (12, .if_icmp .ge 18, 3) (List.mem_of_getElem? (i := 6) rfl)
theorem dX7_textTold_15 : decode cX7_textTold 15 = .ok (.iload_n 1, 1) := bdX7_textTold_0 (15, .iload_n 1, 1) (List.mem_of_getElem? (i := 7) rfl)
theorem dX7_textTold_16 : decode cX7_textTold 16 = .ok (.bipush 14, 2) := bdX7_textTold_0 (16, .bipush 14, 2) (List.mem_of_getElem? (i := 8) rfl)
theorem dX7_textTold_18 : decode cX7_textTold 18 = .ok (.if_icmp .ge 12, 3) := bdX7_textTold_0 (18, .if_icmp .ge 12, 3) (List.mem_of_getElem? (i := 9) rfl)
theorem dX7_textTold_21 : decode cX7_textTold 21 = .ok (.iload_n 2, 1) := bdX7_textTold_0 (21, .iload_n 2, 1) (List.mem_of_getElem? (i := 10) rfl)
theorem dX7_textTold_22 : decode cX7_textTold 22 = .ok (.ifCond .lt 8, 3) := bdX7_textTold_0 (22, .ifCond .lt 8, 3) (List.mem_of_getElem? (i := 11) rfl)
theorem dX7_textTold_25 : decode cX7_textTold 25 = .ok (.iload_n 2, 1) := bdX7_textTold_0 (25, .iload_n 2, 1) (List.mem_of_getElem? (i := 12) rfl)
theorem dX7_textTold_26 : decode cX7_textTold 26 = .ok (.iconst 1, 1) := bdX7_textTold_0 (26, .iconst 1, 1) (List.mem_of_getElem? (i := 13) rfl)
theorem dX7_textTold_27 : decode cX7_textTold 27 = .ok (.if_icmp .le 6, 3) := bdX7_textTold_0 (27, .if_icmp .le 6, 3) (List.mem_of_getElem? (i := 14) rfl)
theorem dX7_textTold_30 : decode cX7_textTold 30 = .ok (.ldc 73, 2) := bdX7_textTold_0 (30, .ldc 73, 2) (List.mem_of_getElem? (i := 15) rfl)
theorem dX7_textTold_32 : decode cX7_textTold 32 = .ok (.ireturn, 1) := bdX7_textTold_0 (32, .ireturn, 1) (List.mem_of_getElem? (i := 16) rfl)
theorem dX7_textTold_33 : decode cX7_textTold 33 = .ok (.aload_n 0, 1) := bdX7_textTold_0 (33, .aload_n 0, 1) (List.mem_of_getElem? (i := 17) rfl)
theorem dX7_textTold_34 : decode cX7_textTold 34 = .ok (.getfield 10, 3) := bdX7_textTold_0 (34, .getfield 10, 3) (List.mem_of_getElem? (i := 18) rfl)
theorem dX7_textTold_37 : decode cX7_textTold 37 = .ok (.getfield 242, 3) := bdX7_textTold_0 (37, .getfield 242, 3) (List.mem_of_getElem? (i := 19) rfl)
theorem dX7_textTold_40 : decode cX7_textTold 40 = .ok (.iload_n 1, 1) := bdX7_textTold_0 (40, .iload_n 1, 1) (List.mem_of_getElem? (i := 20) rfl)
theorem dX7_textTold_41 : decode cX7_textTold 41 = .ok (.aaload, 1) := bdX7_textTold_0 (41, .aaload, 1) (List.mem_of_getElem? (i := 21) rfl)
theorem dX7_textTold_42 : decode cX7_textTold 42 = .ok (.astore_n 3, 1) := bdX7_textTold_0 (42, .astore_n 3, 1) (List.mem_of_getElem? (i := 22) rfl)
theorem dX7_textTold_43 : decode cX7_textTold 43 = .ok (.aload_n 3, 1) := bdX7_textTold_0 (43, .aload_n 3, 1) (List.mem_of_getElem? (i := 23) rfl)
theorem dX7_textTold_47 : decode cX7_textTold 47 = .ok (.ldc 73, 2) := bdX7_textTold_0 (47, .ldc 73, 2) (List.mem_of_getElem? (i := 24) rfl)
theorem dX7_textTold_49 : decode cX7_textTold 49 = .ok (.ireturn, 1) := bdX7_textTold_0 (49, .ireturn, 1) (List.mem_of_getElem? (i := 25) rfl)
theorem dX7_textTold_50 : decode cX7_textTold 50 = .ok (.iload_n 2, 1) := bdX7_textTold_0 (50, .iload_n 2, 1) (List.mem_of_getElem? (i := 26) rfl)
theorem dX7_textTold_51 : decode cX7_textTold 51 = .ok (.ifCond .ne 10, 3) := bdX7_textTold_0 (51, .ifCond .ne 10, 3) (List.mem_of_getElem? (i := 27) rfl)
theorem dX7_textTold_54 : decode cX7_textTold 54 = .ok (.aload_n 3, 1) := bdX7_textTold_0 (54, .aload_n 3, 1) (List.mem_of_getElem? (i := 28) rfl)
theorem dX7_textTold_55 : decode cX7_textTold 55 = .ok (.getfield 250, 3) := bdX7_textTold_0 (55, .getfield 250, 3) (List.mem_of_getElem? (i := 29) rfl)
theorem dX7_textTold_58 : decode cX7_textTold 58 = .ok (.goto 7, 3) := bdX7_textTold_0 (58, .goto 7, 3) (List.mem_of_getElem? (i := 30) rfl)
theorem dX7_textTold_61 : decode cX7_textTold 61 = .ok (.aload_n 3, 1) := bdX7_textTold_0 (61, .aload_n 3, 1) (List.mem_of_getElem? (i := 31) rfl)
theorem dX7_textTold_62 : decode cX7_textTold 62 = .ok (.getfield 253, 3) := bdX7_textTold_0 (62, .getfield 253, 3) (List.mem_of_getElem? (i := 32) rfl)
theorem dX7_textTold_65 : decode cX7_textTold 65 = .ok (.ireturn, 1) := bdX7_textTold_0 (65, .ireturn, 1) (List.mem_of_getElem? (i := 33) rfl)
theorem dX7_textTold_44 : decode cX7_textTold 44 = .ok (.ifnonnull 6, 3) := by decide +kernel
theorem fX7_239 : fldOK RX7 239 0 11 .int false := ⟨_, _, _, tyX0, ⟨rfl, iX0, by decide, rfl, by decide⟩, tw_122, ⟨tyX0_ok, nmX0⟩, by decide +kernel, rfl, rfl⟩
theorem fX7_242 : fldOK RX7 242 0 10 (.array (.object "LionShield$Law")) true := ⟨_, _, _, tyX0, ⟨rfl, iX0, by decide, rfl, by decide⟩, tw_120, ⟨tyX0_ok, nmX0⟩, by decide +kernel, rfl, rfl⟩
theorem fX7_253 : fldOK RX7 253 1 1 .int true := ⟨_, _, _, tyX1, ⟨rfl, iX1, by decide, rfl, by decide⟩, tw_822, ⟨tyX1_ok, nmX1⟩, by decide +kernel, rfl, rfl⟩
theorem fX7_250 : fldOK RX7 250 1 0 .int true := ⟨_, _, _, tyX1, ⟨rfl, iX1, by decide, rfl, by decide⟩, tw_820, ⟨tyX1_ok, nmX1⟩, by decide +kernel, rfl, rfl⟩
def BX7_textTold_30 (ln : Nat → Nat) (post : Int32 → HC → Prop) (S : HC)  : Prop := post (-1000000001 : Int32) S
def wpX7_textTold (ln : Nat → Nat) (S : HC) (a0 : Nat) (a1 : Int32) (a2 : Int32) (post : Int32 → HC → Prop) : Prop := if a1 < 0 then (BX7_textTold_30 ln post S) else (dn_ (hR S a0 0) fun b1 => lt_ (hI S b1 11) fun z2 => if z2 ≤ a1 then (BX7_textTold_30 ln post S) else (if (14 : Int32) ≤ a1 then (BX7_textTold_30 ln post S) else (if a2 < 0 then (BX7_textTold_30 ln post S) else (if a2 ≤ (1 : Int32) then (dn_ (hR S a0 0) fun b3 => dn_ (hR S b3 10) fun b4 => al_ (ln b4) a1 (hR S b4) fun o5 => cO_ o5 (post (-1000000001 : Int32) S) fun b6 => if a2 = 0 then (lt_ (hI S b6 0) fun z8 => post z8 S) else (lt_ (hI S b6 1) fun z7 => post z7 S)) else (BX7_textTold_30 ln post S)))))
abbrev rmX7_textTold : Room := { frames := 0, cells := 0, slots := 0, locals := 0 }
set_option maxHeartbeats 4000000 in
set_option maxRecDepth 100000 in
theorem ctX7_textTold {l : Launch} {g : GX} {N : Nat} {ln : Nat → Nat} {S : HC} {a0 : Nat} {a1 : Int32} {a2 : Int32} {post : Int32 → HC → Prop} (hr_a0 : a0 < N) (hk_a0 : kd a0 = 7) (h : wpX7_textTold ln S a0 a1 a2 post) : Met l yX7_textTold (Cond.code yX7_textTold prog_1_method_27_code 4 (Option.some Jvm.ClassFile.FieldType.int) :: gtbl) rmX7_textTold (va_Pc [.ref (gz g + a0), .int a1, .int a2] (AtP g N ln S)) (QI g N ln post) 0 0 (gF g) := by
  refine m_of (by decide) (Nat.le_of_ble_eq_true rfl) ?_
  intro p e s m below meth c ls F hr I hl
  have hl : lv_has ls 4 [(0, .ref (gz g + a0)), (1, .int a1), (2, .int a2)] := hl
  unfold wpX7_textTold at h
  have hj_30 : ∀ (S : HC) (H : Heap) (locs : List Loc) (ls : Array Slot), BX7_textTold_30 ln post S  → Inv g N ln S s H locs → lv_has ls 4 [] → W p l e rmX7_textTold s m ([.ref (gz g + a0), .int a1, .int a2] : List Value).toArray below meth c H locs 0 0 (MQ below (QI g N ln post) ([.ref (gz g + a0), .int a1, .int a2] : List Value).toArray s 0 0 (gF g)) (F0 m 30 ls []) := by
    intro S H locs ls h I hl
    unfold BX7_textTold_30 at h
    refine lv_ldc F.1 F.2.1 F.2.2.2.1 (F.2.2.2.2 _ tw_334) dX7_textTold_30 ?_
    exact r_ireturn F I ⟨hr.1, hr.2.1, trivial⟩ h dX7_textTold_32
  refine lv_iload_n F.1 F.2.1 dX7_textTold_0 rfl (lv_at hl 1 rfl) ?_
  refine r_if_lt (tgt := 30) F dX7_textTold_1 (by decide) h (fun h => ?_) (fun h => ?_)
  · exact hj_30 S _ _ _   h I (lv_sub hl [] rfl)
  · refine lv_iload_n F.1 F.2.1 dX7_textTold_4 rfl (lv_at hl 1 rfl) ?_
    refine lv_aload_n F.1 F.2.1 dX7_textTold_5 rfl (lv_at hl 0 rfl) ?_
    refine r_getN F I hr_a0 hk_a0 fX7_10 (f := 0) rfl (by decide) dX7_textTold_6 h (fun b1 hr_b1 hk_b1 h => ?_)
    refine r_getI F I hr_b1 hk_b1 fX7_239 rfl dX7_textTold_9 h (fun z2 h => ?_)
    refine r_icmp_ge (tgt := 30) F dX7_textTold_12 (by decide) h (fun h => ?_) (fun h => ?_)
    · exact hj_30 S _ _ _   h I (lv_sub hl [] rfl)
    · refine lv_iload_n F.1 F.2.1 dX7_textTold_15 rfl (lv_at hl 1 rfl) ?_
      refine lv_bipush (v := 14) F.1 F.2.1 dX7_textTold_16 (by decide) ?_
      refine r_icmp_ge (tgt := 30) F dX7_textTold_18 (by decide) h (fun h => ?_) (fun h => ?_)
      · exact hj_30 S _ _ _   h I (lv_sub hl [] rfl)
      · refine lv_iload_n F.1 F.2.1 dX7_textTold_21 rfl (lv_at hl 2 rfl) ?_
        refine r_if_lt (tgt := 30) F dX7_textTold_22 (by decide) h (fun h => ?_) (fun h => ?_)
        · exact hj_30 S _ _ _   h I (lv_sub hl [] rfl)
        · refine lv_iload_n F.1 F.2.1 dX7_textTold_25 rfl (lv_at hl 2 rfl) ?_
          refine lv_iconst (v := 1) F.1 F.2.1 dX7_textTold_26 (by decide) ?_
          refine r_icmp_le (tgt := 33) F dX7_textTold_27 (by decide) h (fun h => ?_) (fun h => ?_)
          · refine lv_aload_n F.1 F.2.1 dX7_textTold_33 rfl (lv_at hl 0 rfl) ?_
            refine r_getN F I hr_a0 hk_a0 fX7_10 (f := 0) rfl (by decide) dX7_textTold_34 h (fun b3 hr_b3 hk_b3 h => ?_)
            refine r_getN F I hr_b3 hk_b3 fX7_242 (f := 13) rfl (by decide) dX7_textTold_37 h (fun b4 hr_b4 hk_b4 h => ?_)
            refine lv_iload_n F.1 F.2.1 dX7_textTold_40 rfl (lv_at hl 1 rfl) ?_
            refine r_aldO F I hr_b4 hk_b4 (by decide) (f := 1) rfl dX7_textTold_41 h (fun o5 ho_o5 h => ?_)
            refine r_astoreO (g := g) (o := o5) (lv1 := [(0, .ref (gz g + a0)), (1, .int a1), (2, .int a2)]) F (Or.inl ⟨_, dX7_textTold_42, rfl, rfl⟩) hl (by decide) rfl (fun ls hl => ?_)
            refine r_aloadO (g := g) (o := o5) F (Or.inl ⟨_, dX7_textTold_43, rfl, rfl⟩) (lv_at hl 0 rfl) ?_
            refine r_ifnonnull (tgt := 50) (g := g) F dX7_textTold_44 (by decide) h (fun q h => ?_) (fun b6 q h2 => ?_)
            · refine lv_ldc F.1 F.2.1 F.2.2.2.1 (F.2.2.2.2 _ tw_334) dX7_textTold_47 ?_
              exact r_ireturn F I ⟨hr.1, hr.2.1, trivial⟩ h dX7_textTold_49
            · obtain ⟨hr_b6, hk_b6⟩ := ho_o5 b6 q
              subst q
              clear h
              have h := h2
              clear h2
              refine lv_iload_n F.1 F.2.1 dX7_textTold_50 rfl (lv_at hl 3 rfl) ?_
              refine r_if_ne (tgt := 61) F dX7_textTold_51 (by decide) h (fun h => ?_) (fun h => ?_)
              · refine lv_aload_n F.1 F.2.1 dX7_textTold_61 rfl (lv_at hl 0 rfl) ?_
                refine r_getI F I hr_b6 hk_b6 fX7_253 rfl dX7_textTold_62 h (fun z7 h => ?_)
                exact r_ireturn F I ⟨hr.1, hr.2.1, trivial⟩ h dX7_textTold_65
              · refine lv_aload_n F.1 F.2.1 dX7_textTold_54 rfl (lv_at hl 0 rfl) ?_
                refine r_getI F I hr_b6 hk_b6 fX7_250 rfl dX7_textTold_55 h (fun z8 h => ?_)
                refine lv_goto (tgt := 65) F.1 F.2.1 dX7_textTold_58 (by decide) ?_
                exact r_ireturn F I ⟨hr.1, hr.2.1, trivial⟩ h dX7_textTold_65
          · exact hj_30 S _ _ _   h I (lv_sub hl [] rfl)
theorem bdX7_why_0 : ∀ q ∈ ([(0, .iload_n 1, 1), (1, .ifCond .lt 8, 3), (4, .iload_n 1, 1), (5, .iconst 3, 1), (6, .if_icmp .lt 6, 3), (9, .ldc 73, 2), (11, .ireturn, 1), (12, .aload_n 0, 1), (13, .getfield 10, 3), (16, .iload_n 1, 1), (17, .invokevirtual 256, 3), (20, .istore_n 2, 1), (21, .iload_n 2, 1), (22, .ifCond .ge 8, 3), (25, .ldc 173, 2), (27, .goto 4, 3), (30, .iload_n 2, 1), (31, .ireturn, 1)] : List (Nat × Jvm.ClassFile.Instr × Nat)), decode cX7_why q.1 = .ok q.2 := chk_ok _ 0 _ rfl (by decide +kernel)
theorem dX7_why_0 : decode cX7_why 0 = .ok (.iload_n 1, 1) := bdX7_why_0 (0, .iload_n 1, 1) (List.mem_of_getElem? (i := 0) rfl)
theorem dX7_why_1 : decode cX7_why 1 = .ok (.ifCond .lt 8, 3) := bdX7_why_0 (1, .ifCond .lt 8, 3) (List.mem_of_getElem? (i := 1) rfl)
theorem dX7_why_4 : decode cX7_why 4 = .ok (.iload_n 1, 1) := bdX7_why_0 (4, .iload_n 1, 1) (List.mem_of_getElem? (i := 2) rfl)
theorem dX7_why_5 : decode cX7_why 5 = .ok (.iconst 3, 1) := bdX7_why_0 (5, .iconst 3, 1) (List.mem_of_getElem? (i := 3) rfl)
theorem dX7_why_6 : decode cX7_why 6 = .ok (.if_icmp .lt 6, 3) := bdX7_why_0 (6, .if_icmp .lt 6, 3) (List.mem_of_getElem? (i := 4) rfl)
theorem dX7_why_9 : decode cX7_why 9 = .ok (.ldc 73, 2) := bdX7_why_0 (9, .ldc 73, 2) (List.mem_of_getElem? (i := 5) rfl)
theorem dX7_why_11 : decode cX7_why 11 = .ok (.ireturn, 1) := bdX7_why_0 (11, .ireturn, 1) (List.mem_of_getElem? (i := 6) rfl)
theorem dX7_why_12 : decode cX7_why 12 = .ok (.aload_n 0, 1) := bdX7_why_0 (12, .aload_n 0, 1) (List.mem_of_getElem? (i := 7) rfl)
theorem dX7_why_13 : decode cX7_why 13 = .ok (.getfield 10, 3) := bdX7_why_0 (13, .getfield 10, 3) (List.mem_of_getElem? (i := 8) rfl)
theorem dX7_why_16 : decode cX7_why 16 = .ok (.iload_n 1, 1) := bdX7_why_0 (16, .iload_n 1, 1) (List.mem_of_getElem? (i := 9) rfl)
theorem dX7_why_17 : decode cX7_why 17 = .ok (.invokevirtual 256, 3) := bdX7_why_0 (17, .invokevirtual 256, 3) (List.mem_of_getElem? (i := 10) rfl)
theorem dX7_why_20 : decode cX7_why 20 = .ok (.istore_n 2, 1) := bdX7_why_0 (20, .istore_n 2, 1) (List.mem_of_getElem? (i := 11) rfl)
theorem dX7_why_21 : decode cX7_why 21 = .ok (.iload_n 2, 1) := bdX7_why_0 (21, .iload_n 2, 1) (List.mem_of_getElem? (i := 12) rfl)
theorem dX7_why_22 : decode cX7_why 22 = .ok (.ifCond .ge 8, 3) := bdX7_why_0 (22, .ifCond .ge 8, 3) (List.mem_of_getElem? (i := 13) rfl)
theorem dX7_why_25 : decode cX7_why 25 = .ok (.ldc 173, 2) := bdX7_why_0 (25, .ldc 173, 2) (List.mem_of_getElem? (i := 14) rfl)
theorem dX7_why_27 : decode cX7_why 27 = .ok (.goto 4, 3) := bdX7_why_0 (27, .goto 4, 3) (List.mem_of_getElem? (i := 15) rfl)
theorem dX7_why_30 : decode cX7_why 30 = .ok (.iload_n 2, 1) := bdX7_why_0 (30, .iload_n 2, 1) (List.mem_of_getElem? (i := 16) rfl)
theorem dX7_why_31 : decode cX7_why 31 = .ok (.ireturn, 1) := bdX7_why_0 (31, .ireturn, 1) (List.mem_of_getElem? (i := 17) rfl)
theorem kX7_256 : mthV RX7 256 0 yX0_lastLaw prog_2_method_18_code 3 (Option.some Jvm.ClassFile.FieldType.int) 1 := ⟨⟨⟨tw_840, tw_61, tw_376⟩, rfl, by decide +kernel⟩, tw_374, tw_375, rfl⟩
def BX7_why_9 (ln : Nat → Nat) (post : Int32 → HC → Prop) (S : HC)  : Prop := post (-1000000001 : Int32) S
def wpX7_why (ln : Nat → Nat) (S : HC) (a0 : Nat) (a1 : Int32) (post : Int32 → HC → Prop) : Prop := if a1 < 0 then (BX7_why_9 ln post S) else (if a1 < (3 : Int32) then (dn_ (hR S a0 0) fun b1 => wpX0_lastLaw ln S b1 a1 fun z2 S => if 0 ≤ z2 then (post z2 S) else (post (-1000000005 : Int32) S)) else (BX7_why_9 ln post S))
abbrev rmX7_why : Room := { frames := 2, cells := 0, slots := 0, locals := 43 }
set_option maxHeartbeats 4000000 in
set_option maxRecDepth 100000 in
theorem ctX7_why {l : Launch} {g : GX} {N : Nat} {ln : Nat → Nat} {S : HC} {a0 : Nat} {a1 : Int32} {post : Int32 → HC → Prop} (hr_a0 : a0 < N) (hk_a0 : kd a0 = 7) (h : wpX7_why ln S a0 a1 post) : Met l yX7_why (Cond.code yX7_why prog_1_method_28_code 3 (Option.some Jvm.ClassFile.FieldType.int) :: gtbl) rmX7_why (va_Pc [.ref (gz g + a0), .int a1] (AtP g N ln S)) (QI g N ln post) 0 0 (gF g) := by
  refine m_of (by decide) (Nat.le_of_ble_eq_true rfl) ?_
  intro p e s m below meth c ls F hr I hl
  have hl : lv_has ls 3 [(0, .ref (gz g + a0)), (1, .int a1)] := hl
  unfold wpX7_why at h
  have hj_9 : ∀ (S : HC) (H : Heap) (locs : List Loc) (ls : Array Slot), BX7_why_9 ln post S  → Inv g N ln S s H locs → lv_has ls 3 [] → W p l e rmX7_why s m ([.ref (gz g + a0), .int a1] : List Value).toArray below meth c H locs 0 0 (MQ below (QI g N ln post) ([.ref (gz g + a0), .int a1] : List Value).toArray s 0 0 (gF g)) (F0 m 9 ls []) := by
    intro S H locs ls h I hl
    unfold BX7_why_9 at h
    refine lv_ldc F.1 F.2.1 F.2.2.2.1 (F.2.2.2.2 _ tw_334) dX7_why_9 ?_
    exact r_ireturn F I ⟨hr.1, hr.2.1, trivial⟩ h dX7_why_11
  refine lv_iload_n F.1 F.2.1 dX7_why_0 rfl (lv_at hl 1 rfl) ?_
  refine r_if_lt (tgt := 9) F dX7_why_1 (by decide) h (fun h => ?_) (fun h => ?_)
  · exact hj_9 S _ _ _   h I (lv_sub hl [] rfl)
  · refine lv_iload_n F.1 F.2.1 dX7_why_4 rfl (lv_at hl 1 rfl) ?_
    refine lv_iconst (v := 3) F.1 F.2.1 dX7_why_5 (by decide) ?_
    refine r_icmp_lt (tgt := 12) F dX7_why_6 (by decide) h (fun h => ?_) (fun h => ?_)
    · refine lv_aload_n F.1 F.2.1 dX7_why_12 rfl (lv_at hl 0 rfl) ?_
      refine r_getN F I hr_a0 hk_a0 fX7_10 (f := 0) rfl (by decide) dX7_why_13 h (fun b1 hr_b1 hk_b1 h => ?_)
      refine lv_iload_n F.1 F.2.1 dX7_why_16 rfl (lv_at hl 1 rfl) ?_
      refine g_I I (run_V (As := [.int a1]) (rest := []) F I hr_b1 hk_b1 (by decide) kX7_256 (ctX0_lastLaw hr_b1 hk_b1 h) ⟨rfl, rfl⟩ ⟨Nat.le_of_ble_eq_true rfl, Nat.le_of_ble_eq_true rfl⟩ rfl hl.1 rfl (Nat.le_of_ble_eq_true rfl) ⟨Nat.le_of_ble_eq_true rfl, Nat.le_of_ble_eq_true rfl⟩ dX7_why_17) (fun z2 S H locs I h => ?_)
      refine lv_istore_n (lv' := [(2, .int z2), (0, .ref (gz g + a0)), (1, .int a1)]) F.1 F.2.1 dX7_why_20 rfl hl (by decide) rfl (fun ls hl => ?_)
      refine lv_iload_n F.1 F.2.1 dX7_why_21 rfl (lv_at hl 0 rfl) ?_
      refine r_if_ge (tgt := 30) F dX7_why_22 (by decide) h (fun h => ?_) (fun h => ?_)
      · refine lv_iload_n F.1 F.2.1 dX7_why_30 rfl (lv_at hl 0 rfl) ?_
        exact r_ireturn F I ⟨hr.1, hr.2.1, trivial⟩ h dX7_why_31
      · refine lv_ldc F.1 F.2.1 F.2.2.2.1 (F.2.2.2.2 _ tw_534) dX7_why_25 ?_
        refine lv_goto (tgt := 31) F.1 F.2.1 dX7_why_27 (by decide) ?_
        exact r_ireturn F I ⟨hr.1, hr.2.1, trivial⟩ h dX7_why_31
    · exact hj_9 S _ _ _   h I (lv_sub hl [] rfl)
