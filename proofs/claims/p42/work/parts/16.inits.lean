theorem bdX0_init_0 : ∀ q ∈ ([(0, .aload_n 0, 1), (1, .invokespecial 3, 3), (4, .aload_n 0, 1), (5, .bipush 14, 2), (9, .putfield 9, 3), (12, .aload_n 0, 1), (13, .bipush 14, 2), (17, .putfield 15, 3), (20, .aload_n 0, 1), (21, .bipush 14, 2), (25, .putfield 18, 3), (28, .aload_n 0, 1), (29, .bipush 14, 2), (33, .putfield 21, 3), (36, .aload_n 0, 1), (37, .bipush 14, 2), (41, .putfield 24, 3), (44, .aload_n 0, 1), (45, .bipush 14, 2), (49, .putfield 27, 3), (52, .aload_n 0, 1), (53, .iconst 0, 1), (54, .putfield 30, 3), (57, .aload_n 0, 1), (58, .bipush 30, 2), (60, .putfield 34, 3), (63, .aload_n 0, 1), (64, .iconst 0, 1), (65, .putfield 37, 3), (68, .aload_n 0, 1), (69, .iconst 1, 1), (70, .putfield 40, 3), (73, .aload_n 0, 1), (74, .bipush 14, 2), (79, .putfield 45, 3), (82, .aload_n 0, 1), (83, .iconst 0, 1), (84, .putfield 49, 3), (87, .return_, 1)] : List (Nat × Jvm.ClassFile.Instr × Nat)), decode cX0_init q.1 = .ok q.2 := chk_ok _ 0 _ rfl (by decide +kernel)
theorem dX0_init_0 : decode cX0_init 0 = .ok (.aload_n 0, 1) := bdX0_init_0 (0, .aload_n 0, 1) (List.mem_of_getElem? (i := 0) rfl)
theorem dX0_init_1 : decode cX0_init 1 = .ok (.invokespecial 3, 3) := bdX0_init_0 (1, .invokespecial 3, 3) (List.mem_of_getElem? (i := 1) rfl)
theorem dX0_init_4 : decode cX0_init 4 = .ok (.aload_n 0, 1) := bdX0_init_0 (4, .aload_n 0, 1) (List.mem_of_getElem? (i := 2) rfl)
theorem dX0_init_5 : decode cX0_init 5 = .ok (.bipush 14, 2) := bdX0_init_0 (5, .bipush 14, 2) (List.mem_of_getElem? (i := 3) rfl)
theorem dX0_init_9 : decode cX0_init 9 = .ok (.putfield 9, 3) := bdX0_init_0 (9, .putfield 9, 3) (List.mem_of_getElem? (i := 4) rfl)
theorem dX0_init_12 : decode cX0_init 12 = .ok (.aload_n 0, 1) := bdX0_init_0 (12, .aload_n 0, 1) (List.mem_of_getElem? (i := 5) rfl)
theorem dX0_init_13 : decode cX0_init 13 = .ok (.bipush 14, 2) := bdX0_init_0 (13, .bipush 14, 2) (List.mem_of_getElem? (i := 6) rfl)
theorem dX0_init_17 : decode cX0_init 17 = .ok (.putfield 15, 3) := bdX0_init_0 (17, .putfield 15, 3) (List.mem_of_getElem? (i := 7) rfl)
theorem dX0_init_20 : decode cX0_init 20 = .ok (.aload_n 0, 1) := bdX0_init_0 (20, .aload_n 0, 1) (List.mem_of_getElem? (i := 8) rfl)
theorem dX0_init_21 : decode cX0_init 21 = .ok (.bipush 14, 2) := bdX0_init_0 (21, .bipush 14, 2) (List.mem_of_getElem? (i := 9) rfl)
theorem dX0_init_25 : decode cX0_init 25 = .ok (.putfield 18, 3) := bdX0_init_0 (25, .putfield 18, 3) (List.mem_of_getElem? (i := 10) rfl)
theorem dX0_init_28 : decode cX0_init 28 = .ok (.aload_n 0, 1) := bdX0_init_0 (28, .aload_n 0, 1) (List.mem_of_getElem? (i := 11) rfl)
theorem dX0_init_29 : decode cX0_init 29 = .ok (.bipush 14, 2) := bdX0_init_0 (29, .bipush 14, 2) (List.mem_of_getElem? (i := 12) rfl)
theorem dX0_init_33 : decode cX0_init 33 = .ok (.putfield 21, 3) := bdX0_init_0 (33, .putfield 21, 3) (List.mem_of_getElem? (i := 13) rfl)
theorem dX0_init_36 : decode cX0_init 36 = .ok (.aload_n 0, 1) := bdX0_init_0 (36, .aload_n 0, 1) (List.mem_of_getElem? (i := 14) rfl)
theorem dX0_init_37 : decode cX0_init 37 = .ok (.bipush 14, 2) := bdX0_init_0 (37, .bipush 14, 2) (List.mem_of_getElem? (i := 15) rfl)
theorem dX0_init_41 : decode cX0_init 41 = .ok (.putfield 24, 3) := bdX0_init_0 (41, .putfield 24, 3) (List.mem_of_getElem? (i := 16) rfl)
theorem dX0_init_44 : decode cX0_init 44 = .ok (.aload_n 0, 1) := bdX0_init_0 (44, .aload_n 0, 1) (List.mem_of_getElem? (i := 17) rfl)
theorem dX0_init_45 : decode cX0_init 45 = .ok (.bipush 14, 2) := bdX0_init_0 (45, .bipush 14, 2) (List.mem_of_getElem? (i := 18) rfl)
theorem dX0_init_49 : decode cX0_init 49 = .ok (.putfield 27, 3) := bdX0_init_0 (49, .putfield 27, 3) (List.mem_of_getElem? (i := 19) rfl)
theorem dX0_init_52 : decode cX0_init 52 = .ok (.aload_n 0, 1) := bdX0_init_0 (52, .aload_n 0, 1) (List.mem_of_getElem? (i := 20) rfl)
theorem dX0_init_53 : decode cX0_init 53 = .ok (.iconst 0, 1) := bdX0_init_0 (53, .iconst 0, 1) (List.mem_of_getElem? (i := 21) rfl)
theorem dX0_init_54 : decode cX0_init 54 = .ok (.putfield 30, 3) := bdX0_init_0 (54, .putfield 30, 3) (List.mem_of_getElem? (i := 22) rfl)
theorem dX0_init_57 : decode cX0_init 57 = .ok (.aload_n 0, 1) := bdX0_init_0 (57, .aload_n 0, 1) (List.mem_of_getElem? (i := 23) rfl)
theorem dX0_init_58 : decode cX0_init 58 = .ok (.bipush 30, 2) := bdX0_init_0 (58, .bipush 30, 2) (List.mem_of_getElem? (i := 24) rfl)
theorem dX0_init_60 : decode cX0_init 60 = .ok (.putfield 34, 3) := bdX0_init_0 (60, .putfield 34, 3) (List.mem_of_getElem? (i := 25) rfl)
theorem dX0_init_63 : decode cX0_init 63 = .ok (.aload_n 0, 1) := bdX0_init_0 (63, .aload_n 0, 1) (List.mem_of_getElem? (i := 26) rfl)
theorem dX0_init_64 : decode cX0_init 64 = .ok (.iconst 0, 1) := bdX0_init_0 (64, .iconst 0, 1) (List.mem_of_getElem? (i := 27) rfl)
theorem dX0_init_65 : decode cX0_init 65 = .ok (.putfield 37, 3) := bdX0_init_0 (65, .putfield 37, 3) (List.mem_of_getElem? (i := 28) rfl)
theorem dX0_init_68 : decode cX0_init 68 = .ok (.aload_n 0, 1) := bdX0_init_0 (68, .aload_n 0, 1) (List.mem_of_getElem? (i := 29) rfl)
theorem dX0_init_69 : decode cX0_init 69 = .ok (.iconst 1, 1) := bdX0_init_0 (69, .iconst 1, 1) (List.mem_of_getElem? (i := 30) rfl)
theorem dX0_init_70 : decode cX0_init 70 = .ok (.putfield 40, 3) := bdX0_init_0 (70, .putfield 40, 3) (List.mem_of_getElem? (i := 31) rfl)
theorem dX0_init_73 : decode cX0_init 73 = .ok (.aload_n 0, 1) := bdX0_init_0 (73, .aload_n 0, 1) (List.mem_of_getElem? (i := 32) rfl)
theorem dX0_init_74 : decode cX0_init 74 = .ok (.bipush 14, 2) := bdX0_init_0 (74, .bipush 14, 2) (List.mem_of_getElem? (i := 33) rfl)
theorem dX0_init_79 : decode cX0_init 79 = .ok (.putfield 45, 3) := bdX0_init_0 (79, .putfield 45, 3) (List.mem_of_getElem? (i := 34) rfl)
theorem dX0_init_82 : decode cX0_init 82 = .ok (.aload_n 0, 1) := bdX0_init_0 (82, .aload_n 0, 1) (List.mem_of_getElem? (i := 35) rfl)
theorem dX0_init_83 : decode cX0_init 83 = .ok (.iconst 0, 1) := bdX0_init_0 (83, .iconst 0, 1) (List.mem_of_getElem? (i := 36) rfl)
theorem dX0_init_84 : decode cX0_init 84 = .ok (.putfield 49, 3) := bdX0_init_0 (84, .putfield 49, 3) (List.mem_of_getElem? (i := 37) rfl)
theorem dX0_init_87 : decode cX0_init 87 = .ok (.return_, 1) := bdX0_init_0 (87, .return_, 1) (List.mem_of_getElem? (i := 38) rfl)
theorem budX0_init_7 : ∀ q ∈ ([(7, .ok (.newarray .int, 2)), (15, .ok (.newarray .int, 2)), (23, .ok (.newarray .int, 2)), (31, .ok (.newarray .int, 2)), (39, .ok (.newarray .int, 2)), (47, .ok (.newarray .int, 2)), (76, .ok (.anewarray 43, 3))] : List (Nat × Except Jvm.ClassFile.DecodeError (Jvm.ClassFile.Instr × Nat))), decode cX0_init q.1 = q.2 := by decide +kernel
theorem dX0_init_7 : decode cX0_init 7 = .ok (.newarray .int, 2) := budX0_init_7 (7, .ok (.newarray .int, 2)) (List.mem_of_getElem? (i := 0) rfl)
theorem dX0_init_15 : decode cX0_init 15 = .ok (.newarray .int, 2) := budX0_init_7 (15, .ok (.newarray .int, 2)) (List.mem_of_getElem? (i := 1) rfl)
theorem dX0_init_23 : decode cX0_init 23 = .ok (.newarray .int, 2) := budX0_init_7 (23, .ok (.newarray .int, 2)) (List.mem_of_getElem? (i := 2) rfl)
theorem dX0_init_31 : decode cX0_init 31 = .ok (.newarray .int, 2) := budX0_init_7 (31, .ok (.newarray .int, 2)) (List.mem_of_getElem? (i := 3) rfl)
theorem dX0_init_39 : decode cX0_init 39 = .ok (.newarray .int, 2) := budX0_init_7 (39, .ok (.newarray .int, 2)) (List.mem_of_getElem? (i := 4) rfl)
theorem dX0_init_47 : decode cX0_init 47 = .ok (.newarray .int, 2) := budX0_init_7 (47, .ok (.newarray .int, 2)) (List.mem_of_getElem? (i := 5) rfl)
theorem dX0_init_76 : decode cX0_init 76 = .ok (.anewarray 43, 3) := budX0_init_7 (76, .ok (.anewarray 43, 3)) (List.mem_of_getElem? (i := 6) rfl)
def wpX0_init (N : Nat) (ln : Nat → Nat) (S : HC) (a0 : Nat) (post : Nat → (Nat → Nat) → HC → Prop) : Prop := na_ N 9 (14 : Int32) 14 ln S fun N1 ln S => lt_ (sR S a0 0 (some N)) fun S => na_ N1 9 (14 : Int32) 14 ln S fun N2 ln S => lt_ (sR S a0 1 (some N1)) fun S => na_ N2 9 (14 : Int32) 14 ln S fun N3 ln S => lt_ (sR S a0 2 (some N2)) fun S => na_ N3 9 (14 : Int32) 14 ln S fun N4 ln S => lt_ (sR S a0 3 (some N3)) fun S => na_ N4 9 (14 : Int32) 14 ln S fun N5 ln S => lt_ (sR S a0 4 (some N4)) fun S => na_ N5 9 (14 : Int32) 14 ln S fun N6 ln S => lt_ (sR S a0 5 (some N5)) fun S => lt_ (sI S a0 6 (0 : Int32)) fun S => lt_ (sI S a0 7 (30 : Int32)) fun S => lt_ (sI S a0 8 (0 : Int32)) fun S => lt_ (sI S a0 9 (1 : Int32)) fun S => na_ N6 13 (14 : Int32) 14 ln S fun N7 ln S => lt_ (sR S a0 10 (some N6)) fun S => lt_ (sI S a0 11 (0 : Int32)) fun S => post N7 ln S
abbrev rmX0_init : Room := { frames := 1, cells := 7, slots := 98, locals := 20 }
set_option maxHeartbeats 4000000 in
set_option maxRecDepth 100000 in
theorem ctX0_init {l : Launch} {g : GX} {N : Nat} {ln : Nat → Nat} {S : HC} {a0 : Nat} {post : Nat → (Nat → Nat) → HC → Prop} (hr_a0 : a0 < N) (hk_a0 : kd a0 = 0) (h : wpX0_init N ln S a0 post) : Met l yX0_init (Cond.code yX0_init prog_2_method_1_code 1 (Option.none : Option Jvm.ClassFile.FieldType) :: gtbl) rmX0_init (va_Pc [.ref (gz g + a0)] (AtP g N ln S)) (QXV g N post) 7 98 (gF g) := by
  refine m_of (by decide) (Nat.le_of_ble_eq_true rfl) ?_
  intro p e s m below meth c ls F hr I hl
  have hl : lv_has ls 1 [(0, .ref (gz g + a0))] := hl
  unfold wpX0_init at h
  have hN := Nat.le_refl N
  refine lv_aload_n F.1 F.2.1 dX0_init_0 rfl (lv_at hl 0 rfl) ?_
  refine W.objInit F.1 F.2.1 F.2.2.2.1 (F.2.2.2.2 _ tw_90) (F.2.2.2.2 _ tw_83) (F.2.2.2.2 _ tw_84) rfl (by rw [F.2.2.1]; exact hl.1) rfl dX0_init_1 (Nat.le_of_ble_eq_true rfl) (Nat.le_of_ble_eq_true rfl) ?_
  refine W.eq (g2 := F0 m 4 ls []) rfl ?_
  refine lv_aload_n F.1 F.2.1 dX0_init_4 rfl (lv_at hl 0 rfl) ?_
  refine lv_bipush (v := 14) F.1 F.2.1 dX0_init_5 (by decide) ?_
  refine r_newa (B := 14) F I h tw_148 ⟨Nat.le_of_ble_eq_true rfl, Nat.le_of_ble_eq_true rfl⟩ (Nat.le_of_ble_eq_true rfl) dX0_init_7 (fun N1 ln S H hr_N hk_N I h => ?_)
  have hr_a0 := Nat.lt_of_lt_of_le hr_a0 (Nat.le_of_lt hr_N)
  have hN := Nat.le_trans hN (Nat.le_of_lt hr_N)
  refine r_putN F I hr_a0 hk_a0 fX0_9 (f := 9) rfl (by decide) (Or.inr ⟨hr.2.2, rfl⟩) hr_N hk_N (fun _ => ⟨⟨rfl, rfl⟩, rfl, rfl⟩) dX0_init_9 h (fun S H locs I h => ?_)
  refine lv_aload_n F.1 F.2.1 dX0_init_12 rfl (lv_at hl 0 rfl) ?_
  refine lv_bipush (v := 14) F.1 F.2.1 dX0_init_13 (by decide) ?_
  refine r_newa (B := 14) F I h tw_148 ⟨Nat.le_of_ble_eq_true rfl, Nat.le_of_ble_eq_true rfl⟩ (Nat.le_of_ble_eq_true rfl) dX0_init_15 (fun N2 ln S H hr_N1 hk_N1 I h => ?_)
  have hr_a0 := Nat.lt_of_lt_of_le hr_a0 (Nat.le_of_lt hr_N1)
  have hN := Nat.le_trans hN (Nat.le_of_lt hr_N1)
  refine r_putN F I hr_a0 hk_a0 fX0_15 (f := 9) rfl (by decide) (Or.inr ⟨hr.2.2, rfl⟩) hr_N1 hk_N1 (fun _ => ⟨⟨rfl, rfl⟩, rfl, rfl⟩) dX0_init_17 h (fun S H locs I h => ?_)
  refine lv_aload_n F.1 F.2.1 dX0_init_20 rfl (lv_at hl 0 rfl) ?_
  refine lv_bipush (v := 14) F.1 F.2.1 dX0_init_21 (by decide) ?_
  refine r_newa (B := 14) F I h tw_148 ⟨Nat.le_of_ble_eq_true rfl, Nat.le_of_ble_eq_true rfl⟩ (Nat.le_of_ble_eq_true rfl) dX0_init_23 (fun N3 ln S H hr_N2 hk_N2 I h => ?_)
  have hr_a0 := Nat.lt_of_lt_of_le hr_a0 (Nat.le_of_lt hr_N2)
  have hN := Nat.le_trans hN (Nat.le_of_lt hr_N2)
  refine r_putN F I hr_a0 hk_a0 fX0_18 (f := 9) rfl (by decide) (Or.inr ⟨hr.2.2, rfl⟩) hr_N2 hk_N2 (fun _ => ⟨⟨rfl, rfl⟩, rfl, rfl⟩) dX0_init_25 h (fun S H locs I h => ?_)
  refine lv_aload_n F.1 F.2.1 dX0_init_28 rfl (lv_at hl 0 rfl) ?_
  refine lv_bipush (v := 14) F.1 F.2.1 dX0_init_29 (by decide) ?_
  refine r_newa (B := 14) F I h tw_148 ⟨Nat.le_of_ble_eq_true rfl, Nat.le_of_ble_eq_true rfl⟩ (Nat.le_of_ble_eq_true rfl) dX0_init_31 (fun N4 ln S H hr_N3 hk_N3 I h => ?_)
  have hr_a0 := Nat.lt_of_lt_of_le hr_a0 (Nat.le_of_lt hr_N3)
  have hN := Nat.le_trans hN (Nat.le_of_lt hr_N3)
  refine r_putN F I hr_a0 hk_a0 fX0_21 (f := 9) rfl (by decide) (Or.inr ⟨hr.2.2, rfl⟩) hr_N3 hk_N3 (fun _ => ⟨⟨rfl, rfl⟩, rfl, rfl⟩) dX0_init_33 h (fun S H locs I h => ?_)
  refine lv_aload_n F.1 F.2.1 dX0_init_36 rfl (lv_at hl 0 rfl) ?_
  refine lv_bipush (v := 14) F.1 F.2.1 dX0_init_37 (by decide) ?_
  refine r_newa (B := 14) F I h tw_148 ⟨Nat.le_of_ble_eq_true rfl, Nat.le_of_ble_eq_true rfl⟩ (Nat.le_of_ble_eq_true rfl) dX0_init_39 (fun N5 ln S H hr_N4 hk_N4 I h => ?_)
  have hr_a0 := Nat.lt_of_lt_of_le hr_a0 (Nat.le_of_lt hr_N4)
  have hN := Nat.le_trans hN (Nat.le_of_lt hr_N4)
  refine r_putN F I hr_a0 hk_a0 fX0_24 (f := 9) rfl (by decide) (Or.inr ⟨hr.2.2, rfl⟩) hr_N4 hk_N4 (fun _ => ⟨⟨rfl, rfl⟩, rfl, rfl⟩) dX0_init_41 h (fun S H locs I h => ?_)
  refine lv_aload_n F.1 F.2.1 dX0_init_44 rfl (lv_at hl 0 rfl) ?_
  refine lv_bipush (v := 14) F.1 F.2.1 dX0_init_45 (by decide) ?_
  refine r_newa (B := 14) F I h tw_148 ⟨Nat.le_of_ble_eq_true rfl, Nat.le_of_ble_eq_true rfl⟩ (Nat.le_of_ble_eq_true rfl) dX0_init_47 (fun N6 ln S H hr_N5 hk_N5 I h => ?_)
  have hr_a0 := Nat.lt_of_lt_of_le hr_a0 (Nat.le_of_lt hr_N5)
  have hN := Nat.le_trans hN (Nat.le_of_lt hr_N5)
  refine r_putN F I hr_a0 hk_a0 fX0_27 (f := 9) rfl (by decide) (Or.inr ⟨hr.2.2, rfl⟩) hr_N5 hk_N5 (fun _ => ⟨⟨rfl, rfl⟩, rfl, rfl⟩) dX0_init_49 h (fun S H locs I h => ?_)
  refine lv_aload_n F.1 F.2.1 dX0_init_52 rfl (lv_at hl 0 rfl) ?_
  refine lv_iconst (v := 0) F.1 F.2.1 dX0_init_53 (by decide) ?_
  refine r_putI F I hr_a0 hk_a0 fX0_30 rfl (Or.inl rfl) ⟨rfl, rfl⟩ dX0_init_54 h (fun S H locs I h => ?_)
  refine lv_aload_n F.1 F.2.1 dX0_init_57 rfl (lv_at hl 0 rfl) ?_
  refine lv_bipush (v := 30) F.1 F.2.1 dX0_init_58 (by decide) ?_
  refine r_putI F I hr_a0 hk_a0 fX0_34 rfl (Or.inl rfl) ⟨rfl, rfl⟩ dX0_init_60 h (fun S H locs I h => ?_)
  refine lv_aload_n F.1 F.2.1 dX0_init_63 rfl (lv_at hl 0 rfl) ?_
  refine lv_iconst (v := 0) F.1 F.2.1 dX0_init_64 (by decide) ?_
  refine r_putI F I hr_a0 hk_a0 fX0_37 rfl (Or.inl rfl) ⟨rfl, rfl⟩ dX0_init_65 h (fun S H locs I h => ?_)
  refine lv_aload_n F.1 F.2.1 dX0_init_68 rfl (lv_at hl 0 rfl) ?_
  refine lv_iconst (v := 1) F.1 F.2.1 dX0_init_69 (by decide) ?_
  refine r_putI F I hr_a0 hk_a0 fX0_40 rfl (Or.inl rfl) ⟨rfl, rfl⟩ dX0_init_70 h (fun S H locs I h => ?_)
  refine lv_aload_n F.1 F.2.1 dX0_init_73 rfl (lv_at hl 0 rfl) ?_
  refine lv_bipush (v := 14) F.1 F.2.1 dX0_init_74 (by decide) ?_
  refine r_newq (B := 14) (q := 13) F I h (by decide) rfl tw_91 (fun q => q.2.1.1) ⟨Nat.le_of_ble_eq_true rfl, Nat.le_of_ble_eq_true rfl⟩ (Nat.le_of_ble_eq_true rfl) dX0_init_76 (fun N7 ln S H hr_N6 hk_N6 I h => ?_)
  have hr_a0 := Nat.lt_of_lt_of_le hr_a0 (Nat.le_of_lt hr_N6)
  have hN := Nat.le_trans hN (Nat.le_of_lt hr_N6)
  refine r_putN F I hr_a0 hk_a0 fX0_45 (f := 13) rfl (by decide) (Or.inr ⟨hr.2.2, rfl⟩) hr_N6 hk_N6 (fun _ => ⟨⟨rfl, rfl⟩, rfl, rfl⟩) dX0_init_79 h (fun S H locs I h => ?_)
  refine lv_aload_n F.1 F.2.1 dX0_init_82 rfl (lv_at hl 0 rfl) ?_
  refine lv_iconst (v := 0) F.1 F.2.1 dX0_init_83 (by decide) ?_
  refine r_putI F I hr_a0 hk_a0 fX0_49 rfl (Or.inl rfl) ⟨rfl, rfl⟩ dX0_init_84 h (fun S H locs I h => ?_)
  refine W.widen (k := 7) (n := 98) (Nat.le_of_ble_eq_true rfl) (Nat.le_of_ble_eq_true rfl) ?_
  exact r_vreturnX F I ⟨hr.1, hr.2.1, trivial⟩ hN h dX0_init_87
theorem bdX1_init_0 : ∀ q ∈ ([(0, .aload_n 0, 1), (1, .invokespecial 1, 3), (4, .aload_n 0, 1), (5, .iload_n 1, 1), (6, .putfield 7, 3), (9, .aload_n 0, 1), (10, .iload_n 2, 1), (11, .putfield 13, 3), (14, .aload_n 0, 1), (15, .aload_n 3, 1), (16, .putfield 16, 3), (19, .return_, 1)] : List (Nat × Jvm.ClassFile.Instr × Nat)), decode cX1_init q.1 = .ok q.2 := chk_ok _ 0 _ rfl (by decide +kernel)
theorem dX1_init_0 : decode cX1_init 0 = .ok (.aload_n 0, 1) := bdX1_init_0 (0, .aload_n 0, 1) (List.mem_of_getElem? (i := 0) rfl)
theorem dX1_init_1 : decode cX1_init 1 = .ok (.invokespecial 1, 3) := bdX1_init_0 (1, .invokespecial 1, 3) (List.mem_of_getElem? (i := 1) rfl)
theorem dX1_init_4 : decode cX1_init 4 = .ok (.aload_n 0, 1) := bdX1_init_0 (4, .aload_n 0, 1) (List.mem_of_getElem? (i := 2) rfl)
theorem dX1_init_5 : decode cX1_init 5 = .ok (.iload_n 1, 1) := bdX1_init_0 (5, .iload_n 1, 1) (List.mem_of_getElem? (i := 3) rfl)
theorem dX1_init_6 : decode cX1_init 6 = .ok (.putfield 7, 3) := bdX1_init_0 (6, .putfield 7, 3) (List.mem_of_getElem? (i := 4) rfl)
theorem dX1_init_9 : decode cX1_init 9 = .ok (.aload_n 0, 1) := bdX1_init_0 (9, .aload_n 0, 1) (List.mem_of_getElem? (i := 5) rfl)
theorem dX1_init_10 : decode cX1_init 10 = .ok (.iload_n 2, 1) := bdX1_init_0 (10, .iload_n 2, 1) (List.mem_of_getElem? (i := 6) rfl)
theorem dX1_init_11 : decode cX1_init 11 = .ok (.putfield 13, 3) := bdX1_init_0 (11, .putfield 13, 3) (List.mem_of_getElem? (i := 7) rfl)
theorem dX1_init_14 : decode cX1_init 14 = .ok (.aload_n 0, 1) := bdX1_init_0 (14, .aload_n 0, 1) (List.mem_of_getElem? (i := 8) rfl)
theorem dX1_init_15 : decode cX1_init 15 = .ok (.aload_n 3, 1) := bdX1_init_0 (15, .aload_n 3, 1) (List.mem_of_getElem? (i := 9) rfl)
theorem dX1_init_16 : decode cX1_init 16 = .ok (.putfield 16, 3) := bdX1_init_0 (16, .putfield 16, 3) (List.mem_of_getElem? (i := 10) rfl)
theorem dX1_init_19 : decode cX1_init 19 = .ok (.return_, 1) := bdX1_init_0 (19, .return_, 1) (List.mem_of_getElem? (i := 11) rfl)
theorem fX1_7 : fldOK RX1 7 1 0 .int true := ⟨_, _, _, tyX1, ⟨rfl, iX1, by decide, rfl, by decide⟩, tw_818, ⟨tyX1_ok, nmX1⟩, by decide +kernel, rfl, rfl⟩
theorem fX1_13 : fldOK RX1 13 1 1 .int true := ⟨_, _, _, tyX1, ⟨rfl, iX1, by decide, rfl, by decide⟩, tw_821, ⟨tyX1_ok, nmX1⟩, by decide +kernel, rfl, rfl⟩
def wpX1_init (ln : Nat → Nat) (S : HC) (a0 : Nat) (a1 : Int32) (a2 : Int32) (a3 : Nat) (post : HC → Prop) : Prop := lt_ (sI S a0 0 a1) fun S => lt_ (sI S a0 1 a2) fun S => lt_ (sR S a0 2 (some a3)) fun S => post S
abbrev rmX1_init : Room := { frames := 1, cells := 0, slots := 0, locals := 20 }
set_option maxHeartbeats 4000000 in
set_option maxRecDepth 100000 in
theorem ctX1_init {l : Launch} {g : GX} {N : Nat} {ln : Nat → Nat} {S : HC} {a0 : Nat} {a1 : Int32} {a2 : Int32} {a3 : Nat} {post : HC → Prop} (hr_a0 : a0 < N) (hk_a0 : kd a0 = 1) (hr_a3 : a3 < N) (hk_a3 : kd a3 = 9) (h : wpX1_init ln S a0 a1 a2 a3 post) : Met l yX1_init (Cond.code yX1_init prog_3_method_1_code 4 (Option.none : Option Jvm.ClassFile.FieldType) :: gtbl) rmX1_init (va_Pc [.ref (gz g + a0), .int a1, .int a2, .ref (gz g + a3)] (AtP g N ln S)) (QV g N ln post) 0 0 (gF g) := by
  refine m_of (by decide) (Nat.le_of_ble_eq_true rfl) ?_
  intro p e s m below meth c ls F hr I hl
  have hl : lv_has ls 4 [(0, .ref (gz g + a0)), (1, .int a1), (2, .int a2), (3, .ref (gz g + a3))] := hl
  unfold wpX1_init at h
  refine lv_aload_n F.1 F.2.1 dX1_init_0 rfl (lv_at hl 0 rfl) ?_
  refine W.objInit F.1 F.2.1 F.2.2.2.1 (F.2.2.2.2 _ tw_817) (F.2.2.2.2 _ tw_83) (F.2.2.2.2 _ tw_84) rfl (by rw [F.2.2.1]; exact hl.1) rfl dX1_init_1 (Nat.le_of_ble_eq_true rfl) (Nat.le_of_ble_eq_true rfl) ?_
  refine W.eq (g2 := F0 m 4 ls []) rfl ?_
  refine lv_aload_n F.1 F.2.1 dX1_init_4 rfl (lv_at hl 0 rfl) ?_
  refine lv_iload_n F.1 F.2.1 dX1_init_5 rfl (lv_at hl 1 rfl) ?_
  refine r_putI F I hr_a0 hk_a0 fX1_7 rfl (Or.inr ⟨hr.2.2, rfl⟩) ⟨rfl, rfl⟩ dX1_init_6 h (fun S H locs I h => ?_)
  refine lv_aload_n F.1 F.2.1 dX1_init_9 rfl (lv_at hl 0 rfl) ?_
  refine lv_iload_n F.1 F.2.1 dX1_init_10 rfl (lv_at hl 2 rfl) ?_
  refine r_putI F I hr_a0 hk_a0 fX1_13 rfl (Or.inr ⟨hr.2.2, rfl⟩) ⟨rfl, rfl⟩ dX1_init_11 h (fun S H locs I h => ?_)
  refine lv_aload_n F.1 F.2.1 dX1_init_14 rfl (lv_at hl 0 rfl) ?_
  refine lv_aload_n F.1 F.2.1 dX1_init_15 rfl (lv_at hl 3 rfl) ?_
  refine r_putN F I hr_a0 hk_a0 fX1_16 (f := 9) rfl (by decide) (Or.inr ⟨hr.2.2, rfl⟩) hr_a3 hk_a3 (fun _ => ⟨⟨rfl, rfl⟩, rfl, rfl⟩) dX1_init_16 h (fun S H locs I h => ?_)
  exact r_vreturn F I ⟨hr.1, hr.2.1, trivial⟩ h dX1_init_19
theorem bdX3_init_0 : ∀ q ∈ ([(0, .aload_n 0, 1), (1, .invokespecial 3, 3), (4, .aload_n 0, 1), (5, .iconst (-1), 1), (6, .putfield 9, 3), (9, .aload_n 0, 1), (10, .iconst 0, 1), (11, .putfield 15, 3), (14, .aload_n 0, 1), (15, .bipush 24, 2), (19, .putfield 18, 3), (22, .return_, 1)] : List (Nat × Jvm.ClassFile.Instr × Nat)), decode cX3_init q.1 = .ok q.2 := chk_ok _ 0 _ rfl (by decide +kernel)
theorem dX3_init_0 : decode cX3_init 0 = .ok (.aload_n 0, 1) := bdX3_init_0 (0, .aload_n 0, 1) (List.mem_of_getElem? (i := 0) rfl)
theorem dX3_init_1 : decode cX3_init 1 = .ok (.invokespecial 3, 3) := bdX3_init_0 (1, .invokespecial 3, 3) (List.mem_of_getElem? (i := 1) rfl)
theorem dX3_init_4 : decode cX3_init 4 = .ok (.aload_n 0, 1) := bdX3_init_0 (4, .aload_n 0, 1) (List.mem_of_getElem? (i := 2) rfl)
theorem dX3_init_5 : decode cX3_init 5 = .ok (.iconst (-1), 1) := bdX3_init_0 (5, .iconst (-1), 1) (List.mem_of_getElem? (i := 3) rfl)
theorem dX3_init_6 : decode cX3_init 6 = .ok (.putfield 9, 3) := bdX3_init_0 (6, .putfield 9, 3) (List.mem_of_getElem? (i := 4) rfl)
theorem dX3_init_9 : decode cX3_init 9 = .ok (.aload_n 0, 1) := bdX3_init_0 (9, .aload_n 0, 1) (List.mem_of_getElem? (i := 5) rfl)
theorem dX3_init_10 : decode cX3_init 10 = .ok (.iconst 0, 1) := bdX3_init_0 (10, .iconst 0, 1) (List.mem_of_getElem? (i := 6) rfl)
theorem dX3_init_11 : decode cX3_init 11 = .ok (.putfield 15, 3) := bdX3_init_0 (11, .putfield 15, 3) (List.mem_of_getElem? (i := 7) rfl)
theorem dX3_init_14 : decode cX3_init 14 = .ok (.aload_n 0, 1) := bdX3_init_0 (14, .aload_n 0, 1) (List.mem_of_getElem? (i := 8) rfl)
theorem dX3_init_15 : decode cX3_init 15 = .ok (.bipush 24, 2) := bdX3_init_0 (15, .bipush 24, 2) (List.mem_of_getElem? (i := 9) rfl)
theorem dX3_init_19 : decode cX3_init 19 = .ok (.putfield 18, 3) := bdX3_init_0 (19, .putfield 18, 3) (List.mem_of_getElem? (i := 10) rfl)
theorem dX3_init_22 : decode cX3_init 22 = .ok (.return_, 1) := bdX3_init_0 (22, .return_, 1) (List.mem_of_getElem? (i := 11) rfl)
theorem dX3_init_17 : decode cX3_init 17 = .ok (.newarray .int, 2) := by decide +kernel
def wpX3_init (N : Nat) (ln : Nat → Nat) (S : HC) (a0 : Nat) (post : Nat → (Nat → Nat) → HC → Prop) : Prop := lt_ (sI S a0 0 (-1 : Int32)) fun S => lt_ (sI S a0 1 (0 : Int32)) fun S => na_ N 9 (24 : Int32) 24 ln S fun N1 ln S => lt_ (sR S a0 2 (some N)) fun S => post N1 ln S
abbrev rmX3_init : Room := { frames := 1, cells := 1, slots := 24, locals := 20 }
set_option maxHeartbeats 4000000 in
set_option maxRecDepth 100000 in
theorem ctX3_init {l : Launch} {g : GX} {N : Nat} {ln : Nat → Nat} {S : HC} {a0 : Nat} {post : Nat → (Nat → Nat) → HC → Prop} (hr_a0 : a0 < N) (hk_a0 : kd a0 = 3) (h : wpX3_init N ln S a0 post) : Met l yX3_init (Cond.code yX3_init prog_5_method_1_code 1 (Option.none : Option Jvm.ClassFile.FieldType) :: gtbl) rmX3_init (va_Pc [.ref (gz g + a0)] (AtP g N ln S)) (QXV g N post) 1 24 (gF g) := by
  refine m_of (by decide) (Nat.le_of_ble_eq_true rfl) ?_
  intro p e s m below meth c ls F hr I hl
  have hl : lv_has ls 1 [(0, .ref (gz g + a0))] := hl
  unfold wpX3_init at h
  have hN := Nat.le_refl N
  refine lv_aload_n F.1 F.2.1 dX3_init_0 rfl (lv_at hl 0 rfl) ?_
  refine W.objInit F.1 F.2.1 F.2.2.2.1 (F.2.2.2.2 _ tw_242) (F.2.2.2.2 _ tw_83) (F.2.2.2.2 _ tw_84) rfl (by rw [F.2.2.1]; exact hl.1) rfl dX3_init_1 (Nat.le_of_ble_eq_true rfl) (Nat.le_of_ble_eq_true rfl) ?_
  refine W.eq (g2 := F0 m 4 ls []) rfl ?_
  refine lv_aload_n F.1 F.2.1 dX3_init_4 rfl (lv_at hl 0 rfl) ?_
  refine lv_iconst (v := -1) F.1 F.2.1 dX3_init_5 (by decide) ?_
  refine r_putI F I hr_a0 hk_a0 fX3_9 rfl (Or.inl rfl) ⟨rfl, rfl⟩ dX3_init_6 h (fun S H locs I h => ?_)
  refine lv_aload_n F.1 F.2.1 dX3_init_9 rfl (lv_at hl 0 rfl) ?_
  refine lv_iconst (v := 0) F.1 F.2.1 dX3_init_10 (by decide) ?_
  refine r_putI F I hr_a0 hk_a0 fX3_15 rfl (Or.inl rfl) ⟨rfl, rfl⟩ dX3_init_11 h (fun S H locs I h => ?_)
  refine lv_aload_n F.1 F.2.1 dX3_init_14 rfl (lv_at hl 0 rfl) ?_
  refine lv_bipush (v := 24) F.1 F.2.1 dX3_init_15 (by decide) ?_
  refine r_newa (B := 24) F I h tw_148 ⟨Nat.le_of_ble_eq_true rfl, Nat.le_of_ble_eq_true rfl⟩ (Nat.le_of_ble_eq_true rfl) dX3_init_17 (fun N1 ln S H hr_N hk_N I h => ?_)
  have hr_a0 := Nat.lt_of_lt_of_le hr_a0 (Nat.le_of_lt hr_N)
  have hN := Nat.le_trans hN (Nat.le_of_lt hr_N)
  refine r_putN F I hr_a0 hk_a0 fX3_18 (f := 9) rfl (by decide) (Or.inr ⟨hr.2.2, rfl⟩) hr_N hk_N (fun _ => ⟨⟨rfl, rfl⟩, rfl, rfl⟩) dX3_init_19 h (fun S H locs I h => ?_)
  refine W.widen (k := 1) (n := 24) (Nat.le_of_ble_eq_true rfl) (Nat.le_of_ble_eq_true rfl) ?_
  exact r_vreturnX F I ⟨hr.1, hr.2.1, trivial⟩ hN h dX3_init_22
theorem bdX6_init_0 : ∀ q ∈ ([(0, .aload_n 0, 1), (1, .invokespecial 3, 3), (4, .aload_n 0, 1), (5, .bipush 96, 2), (9, .putfield 9, 3), (12, .aload_n 0, 1), (13, .iconst 0, 1), (14, .putfield 15, 3), (17, .return_, 1)] : List (Nat × Jvm.ClassFile.Instr × Nat)), decode cX6_init q.1 = .ok q.2 := chk_ok _ 0 _ rfl (by decide +kernel)
theorem dX6_init_0 : decode cX6_init 0 = .ok (.aload_n 0, 1) := bdX6_init_0 (0, .aload_n 0, 1) (List.mem_of_getElem? (i := 0) rfl)
theorem dX6_init_1 : decode cX6_init 1 = .ok (.invokespecial 3, 3) := bdX6_init_0 (1, .invokespecial 3, 3) (List.mem_of_getElem? (i := 1) rfl)
theorem dX6_init_4 : decode cX6_init 4 = .ok (.aload_n 0, 1) := bdX6_init_0 (4, .aload_n 0, 1) (List.mem_of_getElem? (i := 2) rfl)
theorem dX6_init_5 : decode cX6_init 5 = .ok (.bipush 96, 2) := bdX6_init_0 (5, .bipush 96, 2) (List.mem_of_getElem? (i := 3) rfl)
theorem dX6_init_9 : decode cX6_init 9 = .ok (.putfield 9, 3) := bdX6_init_0 (9, .putfield 9, 3) (List.mem_of_getElem? (i := 4) rfl)
theorem dX6_init_12 : decode cX6_init 12 = .ok (.aload_n 0, 1) := bdX6_init_0 (12, .aload_n 0, 1) (List.mem_of_getElem? (i := 5) rfl)
theorem dX6_init_13 : decode cX6_init 13 = .ok (.iconst 0, 1) := bdX6_init_0 (13, .iconst 0, 1) (List.mem_of_getElem? (i := 6) rfl)
theorem dX6_init_14 : decode cX6_init 14 = .ok (.putfield 15, 3) := bdX6_init_0 (14, .putfield 15, 3) (List.mem_of_getElem? (i := 7) rfl)
theorem dX6_init_17 : decode cX6_init 17 = .ok (.return_, 1) := bdX6_init_0 (17, .return_, 1) (List.mem_of_getElem? (i := 8) rfl)
theorem dX6_init_7 : decode cX6_init 7 = .ok (.newarray .int, 2) := by decide +kernel
def wpX6_init (N : Nat) (ln : Nat → Nat) (S : HC) (a0 : Nat) (post : Nat → (Nat → Nat) → HC → Prop) : Prop := na_ N 9 (96 : Int32) 96 ln S fun N1 ln S => lt_ (sR S a0 0 (some N)) fun S => lt_ (sI S a0 1 (0 : Int32)) fun S => post N1 ln S
abbrev rmX6_init : Room := { frames := 1, cells := 1, slots := 96, locals := 20 }
set_option maxHeartbeats 4000000 in
set_option maxRecDepth 100000 in
theorem ctX6_init {l : Launch} {g : GX} {N : Nat} {ln : Nat → Nat} {S : HC} {a0 : Nat} {post : Nat → (Nat → Nat) → HC → Prop} (hr_a0 : a0 < N) (hk_a0 : kd a0 = 6) (h : wpX6_init N ln S a0 post) : Met l yX6_init (Cond.code yX6_init prog_8_method_1_code 1 (Option.none : Option Jvm.ClassFile.FieldType) :: gtbl) rmX6_init (va_Pc [.ref (gz g + a0)] (AtP g N ln S)) (QXV g N post) 1 96 (gF g) := by
  refine m_of (by decide) (Nat.le_of_ble_eq_true rfl) ?_
  intro p e s m below meth c ls F hr I hl
  have hl : lv_has ls 1 [(0, .ref (gz g + a0))] := hl
  unfold wpX6_init at h
  have hN := Nat.le_refl N
  refine lv_aload_n F.1 F.2.1 dX6_init_0 rfl (lv_at hl 0 rfl) ?_
  refine W.objInit F.1 F.2.1 F.2.2.2.1 (F.2.2.2.2 _ tw_188) (F.2.2.2.2 _ tw_83) (F.2.2.2.2 _ tw_84) rfl (by rw [F.2.2.1]; exact hl.1) rfl dX6_init_1 (Nat.le_of_ble_eq_true rfl) (Nat.le_of_ble_eq_true rfl) ?_
  refine W.eq (g2 := F0 m 4 ls []) rfl ?_
  refine lv_aload_n F.1 F.2.1 dX6_init_4 rfl (lv_at hl 0 rfl) ?_
  refine lv_bipush (v := 96) F.1 F.2.1 dX6_init_5 (by decide) ?_
  refine r_newa (B := 96) F I h tw_148 ⟨Nat.le_of_ble_eq_true rfl, Nat.le_of_ble_eq_true rfl⟩ (Nat.le_of_ble_eq_true rfl) dX6_init_7 (fun N1 ln S H hr_N hk_N I h => ?_)
  have hr_a0 := Nat.lt_of_lt_of_le hr_a0 (Nat.le_of_lt hr_N)
  have hN := Nat.le_trans hN (Nat.le_of_lt hr_N)
  refine r_putN F I hr_a0 hk_a0 fX6_9 (f := 9) rfl (by decide) (Or.inr ⟨hr.2.2, rfl⟩) hr_N hk_N (fun _ => ⟨⟨rfl, rfl⟩, rfl, rfl⟩) dX6_init_9 h (fun S H locs I h => ?_)
  refine lv_aload_n F.1 F.2.1 dX6_init_12 rfl (lv_at hl 0 rfl) ?_
  refine lv_iconst (v := 0) F.1 F.2.1 dX6_init_13 (by decide) ?_
  refine r_putI F I hr_a0 hk_a0 fX6_15 rfl (Or.inl rfl) ⟨rfl, rfl⟩ dX6_init_14 h (fun S H locs I h => ?_)
  refine W.widen (k := 1) (n := 96) (Nat.le_of_ble_eq_true rfl) (Nat.le_of_ble_eq_true rfl) ?_
  exact r_vreturnX F I ⟨hr.1, hr.2.1, trivial⟩ hN h dX6_init_17
theorem bdX5_init_0 : ∀ q ∈ ([(0, .aload_n 0, 1), (1, .invokespecial 3, 3), (4, .aload_n 0, 1), (5, .iconst 0, 1), (6, .putfield 9, 3), (9, .aload_n 0, 1), (10, .iconst 0, 1), (11, .putfield 15, 3), (14, .aload_n 0, 1), (15, .iconst 0, 1), (16, .putfield 18, 3), (19, .aload_n 0, 1), (20, .iconst 0, 1), (21, .putfield 21, 3), (24, .aload_n 0, 1), (28, .dup, 1), (29, .invokespecial 26, 3), (32, .putfield 27, 3), (35, .return_, 1)] : List (Nat × Jvm.ClassFile.Instr × Nat)), decode cX5_init q.1 = .ok q.2 := chk_ok _ 0 _ rfl (by decide +kernel)
theorem dX5_init_0 : decode cX5_init 0 = .ok (.aload_n 0, 1) := bdX5_init_0 (0, .aload_n 0, 1) (List.mem_of_getElem? (i := 0) rfl)
theorem dX5_init_1 : decode cX5_init 1 = .ok (.invokespecial 3, 3) := bdX5_init_0 (1, .invokespecial 3, 3) (List.mem_of_getElem? (i := 1) rfl)
theorem dX5_init_4 : decode cX5_init 4 = .ok (.aload_n 0, 1) := bdX5_init_0 (4, .aload_n 0, 1) (List.mem_of_getElem? (i := 2) rfl)
theorem dX5_init_5 : decode cX5_init 5 = .ok (.iconst 0, 1) := bdX5_init_0 (5, .iconst 0, 1) (List.mem_of_getElem? (i := 3) rfl)
theorem dX5_init_6 : decode cX5_init 6 = .ok (.putfield 9, 3) := bdX5_init_0 (6, .putfield 9, 3) (List.mem_of_getElem? (i := 4) rfl)
theorem dX5_init_9 : decode cX5_init 9 = .ok (.aload_n 0, 1) := bdX5_init_0 (9, .aload_n 0, 1) (List.mem_of_getElem? (i := 5) rfl)
theorem dX5_init_10 : decode cX5_init 10 = .ok (.iconst 0, 1) := bdX5_init_0 (10, .iconst 0, 1) (List.mem_of_getElem? (i := 6) rfl)
theorem dX5_init_11 : decode cX5_init 11 = .ok (.putfield 15, 3) := bdX5_init_0 (11, .putfield 15, 3) (List.mem_of_getElem? (i := 7) rfl)
theorem dX5_init_14 : decode cX5_init 14 = .ok (.aload_n 0, 1) := bdX5_init_0 (14, .aload_n 0, 1) (List.mem_of_getElem? (i := 8) rfl)
theorem dX5_init_15 : decode cX5_init 15 = .ok (.iconst 0, 1) := bdX5_init_0 (15, .iconst 0, 1) (List.mem_of_getElem? (i := 9) rfl)
theorem dX5_init_16 : decode cX5_init 16 = .ok (.putfield 18, 3) := bdX5_init_0 (16, .putfield 18, 3) (List.mem_of_getElem? (i := 10) rfl)
theorem dX5_init_19 : decode cX5_init 19 = .ok (.aload_n 0, 1) := bdX5_init_0 (19, .aload_n 0, 1) (List.mem_of_getElem? (i := 11) rfl)
theorem dX5_init_20 : decode cX5_init 20 = .ok (.iconst 0, 1) := bdX5_init_0 (20, .iconst 0, 1) (List.mem_of_getElem? (i := 12) rfl)
theorem dX5_init_21 : decode cX5_init 21 = .ok (.putfield 21, 3) := bdX5_init_0 (21, .putfield 21, 3) (List.mem_of_getElem? (i := 13) rfl)
theorem dX5_init_24 : decode cX5_init 24 = .ok (.aload_n 0, 1) := bdX5_init_0 (24, .aload_n 0, 1) (List.mem_of_getElem? (i := 14) rfl)
theorem dX5_init_28 : decode cX5_init 28 = .ok (.dup, 1) := bdX5_init_0 (28, .dup, 1) (List.mem_of_getElem? (i := 15) rfl)
theorem dX5_init_29 : decode cX5_init 29 = .ok (.invokespecial 26, 3) := bdX5_init_0 (29, .invokespecial 26, 3) (List.mem_of_getElem? (i := 16) rfl)
theorem dX5_init_32 : decode cX5_init 32 = .ok (.putfield 27, 3) := bdX5_init_0 (32, .putfield 27, 3) (List.mem_of_getElem? (i := 17) rfl)
theorem dX5_init_35 : decode cX5_init 35 = .ok (.return_, 1) := bdX5_init_0 (35, .return_, 1) (List.mem_of_getElem? (i := 18) rfl)
theorem dX5_init_25 : decode cX5_init 25 = .ok (.new 24, 3) := by decide +kernel
theorem fX5_9 : fldOK RX5 9 5 0 .int false := ⟨_, _, _, tyX5, ⟨rfl, iX5, by decide, rfl, by decide⟩, tw_264, ⟨tyX5_ok, nmX5⟩, by decide +kernel, rfl, rfl⟩
theorem fX5_15 : fldOK RX5 15 5 1 .int false := ⟨_, _, _, tyX5, ⟨rfl, iX5, by decide, rfl, by decide⟩, tw_266, ⟨tyX5_ok, nmX5⟩, by decide +kernel, rfl, rfl⟩
theorem fX5_18 : fldOK RX5 18 5 2 .int false := ⟨_, _, _, tyX5, ⟨rfl, iX5, by decide, rfl, by decide⟩, tw_268, ⟨tyX5_ok, nmX5⟩, by decide +kernel, rfl, rfl⟩
theorem fX5_21 : fldOK RX5 21 5 3 .int false := ⟨_, _, _, tyX5, ⟨rfl, iX5, by decide, rfl, by decide⟩, tw_270, ⟨tyX5_ok, nmX5⟩, by decide +kernel, rfl, rfl⟩
theorem nX5_24 : clsOK RX5 24 3 3 := ⟨_, _, tyX3, ⟨rfl, iX3, rfl, by decide⟩, tyX3_ok, by decide, tw_262, tw_238, tw_65⟩
theorem kX5_26 : nstI RX5 26 yX3_init prog_5_method_1_code 1 0 := ⟨⟨List.mem_of_getElem? (i := 7) rfl, tw_65, tw_241⟩, by decide +kernel, tw_240, rfl⟩
theorem fX5_27 : fldOK RX5 27 5 4 (.object "LionShield$Row") true := ⟨_, _, _, tyX5, ⟨rfl, iX5, by decide, rfl, by decide⟩, tw_272, ⟨tyX5_ok, nmX5⟩, by decide +kernel, rfl, rfl⟩
def wpX5_init (N : Nat) (ln : Nat → Nat) (S : HC) (a0 : Nat) (post : Nat → (Nat → Nat) → HC → Prop) : Prop := lt_ (sI S a0 0 (0 : Int32)) fun S => lt_ (sI S a0 1 (0 : Int32)) fun S => lt_ (sI S a0 2 (0 : Int32)) fun S => lt_ (sI S a0 3 (0 : Int32)) fun S => nw_ N 3 ln S fun N1 ln S => wpX3_init N1 ln S N fun N2 ln S => lt_ (sR S a0 4 (some N)) fun S => post N2 ln S
abbrev rmX5_init : Room := { frames := 2, cells := 2, slots := 27, locals := 40 }
set_option maxHeartbeats 4000000 in
set_option maxRecDepth 100000 in
theorem ctX5_init {l : Launch} {g : GX} {N : Nat} {ln : Nat → Nat} {S : HC} {a0 : Nat} {post : Nat → (Nat → Nat) → HC → Prop} (hr_a0 : a0 < N) (hk_a0 : kd a0 = 5) (h : wpX5_init N ln S a0 post) : Met l yX5_init (Cond.code yX5_init prog_7_method_1_code 1 (Option.none : Option Jvm.ClassFile.FieldType) :: gtbl) rmX5_init (va_Pc [.ref (gz g + a0)] (AtP g N ln S)) (QXV g N post) 2 27 (gF g) := by
  refine m_of (by decide) (Nat.le_of_ble_eq_true rfl) ?_
  intro p e s m below meth c ls F hr I hl
  have hl : lv_has ls 1 [(0, .ref (gz g + a0))] := hl
  unfold wpX5_init at h
  have hN := Nat.le_refl N
  refine lv_aload_n F.1 F.2.1 dX5_init_0 rfl (lv_at hl 0 rfl) ?_
  refine W.objInit F.1 F.2.1 F.2.2.2.1 (F.2.2.2.2 _ tw_261) (F.2.2.2.2 _ tw_83) (F.2.2.2.2 _ tw_84) rfl (by rw [F.2.2.1]; exact hl.1) rfl dX5_init_1 (Nat.le_of_ble_eq_true rfl) (Nat.le_of_ble_eq_true rfl) ?_
  refine W.eq (g2 := F0 m 4 ls []) rfl ?_
  refine lv_aload_n F.1 F.2.1 dX5_init_4 rfl (lv_at hl 0 rfl) ?_
  refine lv_iconst (v := 0) F.1 F.2.1 dX5_init_5 (by decide) ?_
  refine r_putI F I hr_a0 hk_a0 fX5_9 rfl (Or.inl rfl) ⟨rfl, rfl⟩ dX5_init_6 h (fun S H locs I h => ?_)
  refine lv_aload_n F.1 F.2.1 dX5_init_9 rfl (lv_at hl 0 rfl) ?_
  refine lv_iconst (v := 0) F.1 F.2.1 dX5_init_10 (by decide) ?_
  refine r_putI F I hr_a0 hk_a0 fX5_15 rfl (Or.inl rfl) ⟨rfl, rfl⟩ dX5_init_11 h (fun S H locs I h => ?_)
  refine lv_aload_n F.1 F.2.1 dX5_init_14 rfl (lv_at hl 0 rfl) ?_
  refine lv_iconst (v := 0) F.1 F.2.1 dX5_init_15 (by decide) ?_
  refine r_putI F I hr_a0 hk_a0 fX5_18 rfl (Or.inl rfl) ⟨rfl, rfl⟩ dX5_init_16 h (fun S H locs I h => ?_)
  refine lv_aload_n F.1 F.2.1 dX5_init_19 rfl (lv_at hl 0 rfl) ?_
  refine lv_iconst (v := 0) F.1 F.2.1 dX5_init_20 (by decide) ?_
  refine r_putI F I hr_a0 hk_a0 fX5_21 rfl (Or.inl rfl) ⟨rfl, rfl⟩ dX5_init_21 h (fun S H locs I h => ?_)
  refine lv_aload_n F.1 F.2.1 dX5_init_24 rfl (lv_at hl 0 rfl) ?_
  refine r_new F I nX5_24 h ⟨Nat.le_of_ble_eq_true rfl, Nat.le_of_ble_eq_true rfl⟩ dX5_init_25 (fun N1 ln S H hr_N hk_N I h => ?_)
  have hr_a0 := Nat.lt_of_lt_of_le hr_a0 (Nat.le_of_lt hr_N)
  have hN := Nat.le_trans hN (Nat.le_of_lt hr_N)
  refine lv_dup F.1 F.2.1 dX5_init_28 rfl ?_
  refine g_XV I (run_NI (As := []) (rest := [.ref (gz g + N), .ref (gz g + a0)]) F I kX5_26 (ctX3_init hr_N hk_N h) ⟨rfl, rfl⟩ ⟨Nat.le_of_ble_eq_true rfl, Nat.le_of_ble_eq_true rfl⟩ rfl hl.1 rfl (Nat.le_of_ble_eq_true rfl) ⟨Nat.le_of_ble_eq_true rfl, Nat.le_of_ble_eq_true rfl⟩ dX5_init_29) (fun N2 ln S H locs hNN I h => ?_)
  have hr_a0 := Nat.lt_of_lt_of_le hr_a0 hNN
  have hr_N := Nat.lt_of_lt_of_le hr_N hNN
  have hN := Nat.le_trans hN hNN
  refine r_putN F I hr_a0 hk_a0 fX5_27 (f := 3) rfl (by decide) (Or.inr ⟨hr.2.2, rfl⟩) hr_N hk_N (fun _ => ⟨⟨rfl, rfl⟩, rfl, rfl⟩) dX5_init_32 h (fun S H locs I h => ?_)
  refine W.widen (k := 2) (n := 27) (Nat.le_of_ble_eq_true rfl) (Nat.le_of_ble_eq_true rfl) ?_
  exact r_vreturnX F I ⟨hr.1, hr.2.1, trivial⟩ hN h dX5_init_35
theorem bdX4_init_0 : ∀ q ∈ ([(0, .aload_n 0, 1), (1, .invokespecial 3, 3), (4, .aload_n 0, 1), (5, .bipush 112, 2), (9, .putfield 9, 3), (12, .aload_n 0, 1), (13, .bipush 14, 2), (17, .putfield 15, 3), (20, .aload_n 0, 1), (21, .bipush 96, 2), (25, .putfield 19, 3), (28, .aload_n 0, 1), (32, .dup, 1), (33, .invokespecial 24, 3), (36, .putfield 25, 3), (39, .aload_n 0, 1), (41, .putfield 29, 3), (44, .aload_n 0, 1), (45, .iconst 0, 1), (46, .putfield 33, 3), (49, .return_, 1)] : List (Nat × Jvm.ClassFile.Instr × Nat)), decode cX4_init q.1 = .ok q.2 := chk_ok _ 0 _ rfl (by decide +kernel)
theorem dX4_init_0 : decode cX4_init 0 = .ok (.aload_n 0, 1) := bdX4_init_0 (0, .aload_n 0, 1) (List.mem_of_getElem? (i := 0) rfl)
theorem dX4_init_1 : decode cX4_init 1 = .ok (.invokespecial 3, 3) := bdX4_init_0 (1, .invokespecial 3, 3) (List.mem_of_getElem? (i := 1) rfl)
theorem dX4_init_4 : decode cX4_init 4 = .ok (.aload_n 0, 1) := bdX4_init_0 (4, .aload_n 0, 1) (List.mem_of_getElem? (i := 2) rfl)
theorem dX4_init_5 : decode cX4_init 5 = .ok (.bipush 112, 2) := bdX4_init_0 (5, .bipush 112, 2) (List.mem_of_getElem? (i := 3) rfl)
theorem dX4_init_9 : decode cX4_init 9 = .ok (.putfield 9, 3) := bdX4_init_0 (9, .putfield 9, 3) (List.mem_of_getElem? (i := 4) rfl)
theorem dX4_init_12 : decode cX4_init 12 = .ok (.aload_n 0, 1) := bdX4_init_0 (12, .aload_n 0, 1) (List.mem_of_getElem? (i := 5) rfl)
theorem dX4_init_13 : decode cX4_init 13 = .ok (.bipush 14, 2) := bdX4_init_0 (13, .bipush 14, 2) (List.mem_of_getElem? (i := 6) rfl)
theorem dX4_init_17 : decode cX4_init 17 = .ok (.putfield 15, 3) := bdX4_init_0 (17, .putfield 15, 3) (List.mem_of_getElem? (i := 7) rfl)
theorem dX4_init_20 : decode cX4_init 20 = .ok (.aload_n 0, 1) := bdX4_init_0 (20, .aload_n 0, 1) (List.mem_of_getElem? (i := 8) rfl)
theorem dX4_init_21 : decode cX4_init 21 = .ok (.bipush 96, 2) := bdX4_init_0 (21, .bipush 96, 2) (List.mem_of_getElem? (i := 9) rfl)
theorem dX4_init_25 : decode cX4_init 25 = .ok (.putfield 19, 3) := bdX4_init_0 (25, .putfield 19, 3) (List.mem_of_getElem? (i := 10) rfl)
theorem dX4_init_28 : decode cX4_init 28 = .ok (.aload_n 0, 1) := bdX4_init_0 (28, .aload_n 0, 1) (List.mem_of_getElem? (i := 11) rfl)
theorem dX4_init_32 : decode cX4_init 32 = .ok (.dup, 1) := bdX4_init_0 (32, .dup, 1) (List.mem_of_getElem? (i := 12) rfl)
theorem dX4_init_33 : decode cX4_init 33 = .ok (.invokespecial 24, 3) := bdX4_init_0 (33, .invokespecial 24, 3) (List.mem_of_getElem? (i := 13) rfl)
theorem dX4_init_36 : decode cX4_init 36 = .ok (.putfield 25, 3) := bdX4_init_0 (36, .putfield 25, 3) (List.mem_of_getElem? (i := 14) rfl)
theorem dX4_init_39 : decode cX4_init 39 = .ok (.aload_n 0, 1) := bdX4_init_0 (39, .aload_n 0, 1) (List.mem_of_getElem? (i := 15) rfl)
theorem dX4_init_41 : decode cX4_init 41 = .ok (.putfield 29, 3) := bdX4_init_0 (41, .putfield 29, 3) (List.mem_of_getElem? (i := 16) rfl)
theorem dX4_init_44 : decode cX4_init 44 = .ok (.aload_n 0, 1) := bdX4_init_0 (44, .aload_n 0, 1) (List.mem_of_getElem? (i := 17) rfl)
theorem dX4_init_45 : decode cX4_init 45 = .ok (.iconst 0, 1) := bdX4_init_0 (45, .iconst 0, 1) (List.mem_of_getElem? (i := 18) rfl)
theorem dX4_init_46 : decode cX4_init 46 = .ok (.putfield 33, 3) := bdX4_init_0 (46, .putfield 33, 3) (List.mem_of_getElem? (i := 19) rfl)
theorem dX4_init_49 : decode cX4_init 49 = .ok (.return_, 1) := bdX4_init_0 (49, .return_, 1) (List.mem_of_getElem? (i := 20) rfl)
theorem budX4_init_7 : ∀ q ∈ ([(7, .ok (.newarray .int, 2)), (15, .ok (.newarray .long, 2)), (23, .ok (.newarray .int, 2)), (29, .ok (.new 22, 3)), (40, .ok (.aconst_null, 1))] : List (Nat × Except Jvm.ClassFile.DecodeError (Jvm.ClassFile.Instr × Nat))), decode cX4_init q.1 = q.2 := by decide +kernel
theorem dX4_init_7 : decode cX4_init 7 = .ok (.newarray .int, 2) := budX4_init_7 (7, .ok (.newarray .int, 2)) (List.mem_of_getElem? (i := 0) rfl)
theorem dX4_init_15 : decode cX4_init 15 = .ok (.newarray .long, 2) := budX4_init_7 (15, .ok (.newarray .long, 2)) (List.mem_of_getElem? (i := 1) rfl)
theorem dX4_init_23 : decode cX4_init 23 = .ok (.newarray .int, 2) := budX4_init_7 (23, .ok (.newarray .int, 2)) (List.mem_of_getElem? (i := 2) rfl)
theorem dX4_init_29 : decode cX4_init 29 = .ok (.new 22, 3) := budX4_init_7 (29, .ok (.new 22, 3)) (List.mem_of_getElem? (i := 3) rfl)
theorem dX4_init_40 : decode cX4_init 40 = .ok (.aconst_null, 1) := budX4_init_7 (40, .ok (.aconst_null, 1)) (List.mem_of_getElem? (i := 4) rfl)
theorem nX4_22 : clsOK RX4 22 0 12 := ⟨_, _, tyX0, ⟨rfl, iX0, rfl, by decide⟩, tyX0_ok, by decide, tw_155, tw_86, tw_61⟩
theorem kX4_24 : nstI RX4 24 yX0_init prog_2_method_1_code 1 0 := ⟨⟨List.mem_of_getElem? (i := 2) rfl, tw_61, tw_89⟩, by decide +kernel, tw_88, rfl⟩
def wpX4_init (N : Nat) (ln : Nat → Nat) (S : HC) (a0 : Nat) (post : Nat → (Nat → Nat) → HC → Prop) : Prop := na_ N 9 (112 : Int32) 112 ln S fun N1 ln S => lt_ (sR S a0 0 (some N)) fun S => na_ N1 10 (14 : Int32) 14 ln S fun N2 ln S => lt_ (sR S a0 1 (some N1)) fun S => na_ N2 9 (96 : Int32) 96 ln S fun N3 ln S => lt_ (sR S a0 2 (some N2)) fun S => nw_ N3 0 ln S fun N4 ln S => wpX0_init N4 ln S N3 fun N5 ln S => lt_ (sR S a0 3 (some N3)) fun S => lt_ (sR S a0 4 none) fun S => lt_ (sI S a0 5 (0 : Int32)) fun S => post N5 ln S
abbrev rmX4_init : Room := { frames := 2, cells := 11, slots := 332, locals := 40 }
set_option maxHeartbeats 4000000 in
set_option maxRecDepth 100000 in
theorem ctX4_init {l : Launch} {g : GX} {N : Nat} {ln : Nat → Nat} {S : HC} {a0 : Nat} {post : Nat → (Nat → Nat) → HC → Prop} (hr_a0 : a0 < N) (hk_a0 : kd a0 = 4) (h : wpX4_init N ln S a0 post) : Met l yX4_init (Cond.code yX4_init prog_6_method_1_code 1 (Option.none : Option Jvm.ClassFile.FieldType) :: gtbl) rmX4_init (va_Pc [.ref (gz g + a0)] (AtP g N ln S)) (QXV g N post) 11 332 (gF g) := by
  refine m_of (by decide) (Nat.le_of_ble_eq_true rfl) ?_
  intro p e s m below meth c ls F hr I hl
  have hl : lv_has ls 1 [(0, .ref (gz g + a0))] := hl
  unfold wpX4_init at h
  have hN := Nat.le_refl N
  refine lv_aload_n F.1 F.2.1 dX4_init_0 rfl (lv_at hl 0 rfl) ?_
  refine W.objInit F.1 F.2.1 F.2.2.2.1 (F.2.2.2.2 _ tw_154) (F.2.2.2.2 _ tw_83) (F.2.2.2.2 _ tw_84) rfl (by rw [F.2.2.1]; exact hl.1) rfl dX4_init_1 (Nat.le_of_ble_eq_true rfl) (Nat.le_of_ble_eq_true rfl) ?_
  refine W.eq (g2 := F0 m 4 ls []) rfl ?_
  refine lv_aload_n F.1 F.2.1 dX4_init_4 rfl (lv_at hl 0 rfl) ?_
  refine lv_bipush (v := 112) F.1 F.2.1 dX4_init_5 (by decide) ?_
  refine r_newa (B := 112) F I h tw_148 ⟨Nat.le_of_ble_eq_true rfl, Nat.le_of_ble_eq_true rfl⟩ (Nat.le_of_ble_eq_true rfl) dX4_init_7 (fun N1 ln S H hr_N hk_N I h => ?_)
  have hr_a0 := Nat.lt_of_lt_of_le hr_a0 (Nat.le_of_lt hr_N)
  have hN := Nat.le_trans hN (Nat.le_of_lt hr_N)
  refine r_putN F I hr_a0 hk_a0 fX4_9 (f := 9) rfl (by decide) (Or.inr ⟨hr.2.2, rfl⟩) hr_N hk_N (fun _ => ⟨⟨rfl, rfl⟩, rfl, rfl⟩) dX4_init_9 h (fun S H locs I h => ?_)
  refine lv_aload_n F.1 F.2.1 dX4_init_12 rfl (lv_at hl 0 rfl) ?_
  refine lv_bipush (v := 14) F.1 F.2.1 dX4_init_13 (by decide) ?_
  refine r_newaJ (B := 14) F I h tw_176 ⟨Nat.le_of_ble_eq_true rfl, Nat.le_of_ble_eq_true rfl⟩ (Nat.le_of_ble_eq_true rfl) dX4_init_15 (fun N2 ln S H hr_N1 hk_N1 I h => ?_)
  have hr_a0 := Nat.lt_of_lt_of_le hr_a0 (Nat.le_of_lt hr_N1)
  have hN := Nat.le_trans hN (Nat.le_of_lt hr_N1)
  refine r_putN F I hr_a0 hk_a0 fX4_15 (f := 10) rfl (by decide) (Or.inr ⟨hr.2.2, rfl⟩) hr_N1 hk_N1 (fun _ => ⟨⟨rfl, rfl⟩, rfl, rfl⟩) dX4_init_17 h (fun S H locs I h => ?_)
  refine lv_aload_n F.1 F.2.1 dX4_init_20 rfl (lv_at hl 0 rfl) ?_
  refine lv_bipush (v := 96) F.1 F.2.1 dX4_init_21 (by decide) ?_
  refine r_newa (B := 96) F I h tw_148 ⟨Nat.le_of_ble_eq_true rfl, Nat.le_of_ble_eq_true rfl⟩ (Nat.le_of_ble_eq_true rfl) dX4_init_23 (fun N3 ln S H hr_N2 hk_N2 I h => ?_)
  have hr_a0 := Nat.lt_of_lt_of_le hr_a0 (Nat.le_of_lt hr_N2)
  have hN := Nat.le_trans hN (Nat.le_of_lt hr_N2)
  refine r_putN F I hr_a0 hk_a0 fX4_19 (f := 9) rfl (by decide) (Or.inr ⟨hr.2.2, rfl⟩) hr_N2 hk_N2 (fun _ => ⟨⟨rfl, rfl⟩, rfl, rfl⟩) dX4_init_25 h (fun S H locs I h => ?_)
  refine lv_aload_n F.1 F.2.1 dX4_init_28 rfl (lv_at hl 0 rfl) ?_
  refine r_new F I nX4_22 h ⟨Nat.le_of_ble_eq_true rfl, Nat.le_of_ble_eq_true rfl⟩ dX4_init_29 (fun N4 ln S H hr_N3 hk_N3 I h => ?_)
  have hr_a0 := Nat.lt_of_lt_of_le hr_a0 (Nat.le_of_lt hr_N3)
  have hN := Nat.le_trans hN (Nat.le_of_lt hr_N3)
  refine lv_dup F.1 F.2.1 dX4_init_32 rfl ?_
  refine g_XV I (run_NI (As := []) (rest := [.ref (gz g + N3), .ref (gz g + a0)]) F I kX4_24 (ctX0_init hr_N3 hk_N3 h) ⟨rfl, rfl⟩ ⟨Nat.le_of_ble_eq_true rfl, Nat.le_of_ble_eq_true rfl⟩ rfl hl.1 rfl (Nat.le_of_ble_eq_true rfl) ⟨Nat.le_of_ble_eq_true rfl, Nat.le_of_ble_eq_true rfl⟩ dX4_init_33) (fun N5 ln S H locs hNN I h => ?_)
  have hr_a0 := Nat.lt_of_lt_of_le hr_a0 hNN
  have hr_N3 := Nat.lt_of_lt_of_le hr_N3 hNN
  have hN := Nat.le_trans hN hNN
  refine r_putN F I hr_a0 hk_a0 fX4_25 (f := 0) rfl (by decide) (Or.inl rfl) hr_N3 hk_N3 (fun _ => ⟨⟨rfl, rfl⟩, rfl, rfl⟩) dX4_init_36 h (fun S H locs I h => ?_)
  refine lv_aload_n F.1 F.2.1 dX4_init_39 rfl (lv_at hl 0 rfl) ?_
  refine lv_null F.1 F.2.1 dX4_init_40 ?_
  refine r_putNul F I hr_a0 hk_a0 fX4_29 (f := 1) rfl (by decide) (Or.inl rfl) (fun _ => ⟨⟨rfl, rfl⟩, rfl, rfl⟩) dX4_init_41 h (fun S H locs I h => ?_)
  refine lv_aload_n F.1 F.2.1 dX4_init_44 rfl (lv_at hl 0 rfl) ?_
  refine lv_iconst (v := 0) F.1 F.2.1 dX4_init_45 (by decide) ?_
  refine r_putI F I hr_a0 hk_a0 fX4_33 rfl (Or.inl rfl) ⟨rfl, rfl⟩ dX4_init_46 h (fun S H locs I h => ?_)
  refine W.widen (k := 11) (n := 332) (Nat.le_of_ble_eq_true rfl) (Nat.le_of_ble_eq_true rfl) ?_
  exact r_vreturnX F I ⟨hr.1, hr.2.1, trivial⟩ hN h dX4_init_49
theorem bdX2_init_0 : ∀ q ∈ ([(0, .aload_n 0, 1), (1, .invokespecial 3, 3), (4, .aload_n 0, 1), (8, .dup, 1), (9, .invokespecial 11, 3), (12, .putfield 12, 3), (15, .aload_n 0, 1), (16, .iconst 0, 1), (17, .putfield 18, 3), (20, .aload_n 0, 1), (21, .iconst 0, 1), (22, .putfield 22, 3), (25, .aload_n 0, 1), (26, .iconst 0, 1), (27, .putfield 25, 3), (30, .aload_n 0, 1), (31, .iconst (-1), 1), (32, .putfield 28, 3), (35, .aload_n 0, 1), (36, .bipush 96, 2), (40, .putfield 31, 3), (43, .aload_n 0, 1), (44, .iconst 0, 1), (45, .putfield 35, 3), (48, .aload_n 0, 1), (49, .iconst 0, 1), (50, .putfield 38, 3), (53, .aload_n 0, 1), (54, .iconst 0, 1), (55, .putfield 41, 3), (58, .aload_n 0, 1), (59, .iconst 0, 1), (60, .putfield 44, 3), (63, .aload_n 0, 1), (64, .iconst (-1), 1), (65, .putfield 47, 3), (68, .return_, 1)] : List (Nat × Jvm.ClassFile.Instr × Nat)), decode cX2_init q.1 = .ok q.2 := chk_ok _ 0 _ rfl (by decide +kernel)
theorem dX2_init_0 : decode cX2_init 0 = .ok (.aload_n 0, 1) := bdX2_init_0 (0, .aload_n 0, 1) (List.mem_of_getElem? (i := 0) rfl)
theorem dX2_init_1 : decode cX2_init 1 = .ok (.invokespecial 3, 3) := bdX2_init_0 (1, .invokespecial 3, 3) (List.mem_of_getElem? (i := 1) rfl)
theorem dX2_init_4 : decode cX2_init 4 = .ok (.aload_n 0, 1) := bdX2_init_0 (4, .aload_n 0, 1) (List.mem_of_getElem? (i := 2) rfl)
theorem dX2_init_8 : decode cX2_init 8 = .ok (.dup, 1) := bdX2_init_0 (8, .dup, 1) (List.mem_of_getElem? (i := 3) rfl)
theorem dX2_init_9 : decode cX2_init 9 = .ok (.invokespecial 11, 3) := bdX2_init_0 (9, .invokespecial 11, 3) (List.mem_of_getElem? (i := 4) rfl)
theorem dX2_init_12 : decode cX2_init 12 = .ok (.putfield 12, 3) := bdX2_init_0 (12, .putfield 12, 3) (List.mem_of_getElem? (i := 5) rfl)
theorem dX2_init_15 : decode cX2_init 15 = .ok (.aload_n 0, 1) := bdX2_init_0 (15, .aload_n 0, 1) (List.mem_of_getElem? (i := 6) rfl)
theorem dX2_init_16 : decode cX2_init 16 = .ok (.iconst 0, 1) := bdX2_init_0 (16, .iconst 0, 1) (List.mem_of_getElem? (i := 7) rfl)
theorem dX2_init_17 : decode cX2_init 17 = .ok (.putfield 18, 3) := bdX2_init_0 (17, .putfield 18, 3) (List.mem_of_getElem? (i := 8) rfl)
theorem dX2_init_20 : decode cX2_init 20 = .ok (.aload_n 0, 1) := bdX2_init_0 (20, .aload_n 0, 1) (List.mem_of_getElem? (i := 9) rfl)
theorem dX2_init_21 : decode cX2_init 21 = .ok (.iconst 0, 1) := bdX2_init_0 (21, .iconst 0, 1) (List.mem_of_getElem? (i := 10) rfl)
theorem dX2_init_22 : decode cX2_init 22 = .ok (.putfield 22, 3) := bdX2_init_0 (22, .putfield 22, 3) (List.mem_of_getElem? (i := 11) rfl)
theorem dX2_init_25 : decode cX2_init 25 = .ok (.aload_n 0, 1) := bdX2_init_0 (25, .aload_n 0, 1) (List.mem_of_getElem? (i := 12) rfl)
theorem dX2_init_26 : decode cX2_init 26 = .ok (.iconst 0, 1) := bdX2_init_0 (26, .iconst 0, 1) (List.mem_of_getElem? (i := 13) rfl)
theorem dX2_init_27 : decode cX2_init 27 = .ok (.putfield 25, 3) := bdX2_init_0 (27, .putfield 25, 3) (List.mem_of_getElem? (i := 14) rfl)
theorem dX2_init_30 : decode cX2_init 30 = .ok (.aload_n 0, 1) := bdX2_init_0 (30, .aload_n 0, 1) (List.mem_of_getElem? (i := 15) rfl)
theorem dX2_init_31 : decode cX2_init 31 = .ok (.iconst (-1), 1) := bdX2_init_0 (31, .iconst (-1), 1) (List.mem_of_getElem? (i := 16) rfl)
theorem dX2_init_32 : decode cX2_init 32 = .ok (.putfield 28, 3) := bdX2_init_0 (32, .putfield 28, 3) (List.mem_of_getElem? (i := 17) rfl)
theorem dX2_init_35 : decode cX2_init 35 = .ok (.aload_n 0, 1) := bdX2_init_0 (35, .aload_n 0, 1) (List.mem_of_getElem? (i := 18) rfl)
theorem dX2_init_36 : decode cX2_init 36 = .ok (.bipush 96, 2) := bdX2_init_0 (36, .bipush 96, 2) (List.mem_of_getElem? (i := 19) rfl)
theorem dX2_init_40 : decode cX2_init 40 = .ok (.putfield 31, 3) := bdX2_init_0 (40, .putfield 31, 3) (List.mem_of_getElem? (i := 20) rfl)
theorem dX2_init_43 : decode cX2_init 43 = .ok (.aload_n 0, 1) := bdX2_init_0 (43, .aload_n 0, 1) (List.mem_of_getElem? (i := 21) rfl)
theorem dX2_init_44 : decode cX2_init 44 = .ok (.iconst 0, 1) := bdX2_init_0 (44, .iconst 0, 1) (List.mem_of_getElem? (i := 22) rfl)
theorem dX2_init_45 : decode cX2_init 45 = .ok (.putfield 35, 3) := bdX2_init_0 (45, .putfield 35, 3) (List.mem_of_getElem? (i := 23) rfl)
theorem dX2_init_48 : decode cX2_init 48 = .ok (.aload_n 0, 1) := bdX2_init_0 (48, .aload_n 0, 1) (List.mem_of_getElem? (i := 24) rfl)
theorem dX2_init_49 : decode cX2_init 49 = .ok (.iconst 0, 1) := bdX2_init_0 (49, .iconst 0, 1) (List.mem_of_getElem? (i := 25) rfl)
theorem dX2_init_50 : decode cX2_init 50 = .ok (.putfield 38, 3) := bdX2_init_0 (50, .putfield 38, 3) (List.mem_of_getElem? (i := 26) rfl)
theorem dX2_init_53 : decode cX2_init 53 = .ok (.aload_n 0, 1) := bdX2_init_0 (53, .aload_n 0, 1) (List.mem_of_getElem? (i := 27) rfl)
theorem dX2_init_54 : decode cX2_init 54 = .ok (.iconst 0, 1) := bdX2_init_0 (54, .iconst 0, 1) (List.mem_of_getElem? (i := 28) rfl)
theorem dX2_init_55 : decode cX2_init 55 = .ok (.putfield 41, 3) := bdX2_init_0 (55, .putfield 41, 3) (List.mem_of_getElem? (i := 29) rfl)
theorem dX2_init_58 : decode cX2_init 58 = .ok (.aload_n 0, 1) := bdX2_init_0 (58, .aload_n 0, 1) (List.mem_of_getElem? (i := 30) rfl)
theorem dX2_init_59 : decode cX2_init 59 = .ok (.iconst 0, 1) := bdX2_init_0 (59, .iconst 0, 1) (List.mem_of_getElem? (i := 31) rfl)
theorem dX2_init_60 : decode cX2_init 60 = .ok (.putfield 44, 3) := bdX2_init_0 (60, .putfield 44, 3) (List.mem_of_getElem? (i := 32) rfl)
theorem dX2_init_63 : decode cX2_init 63 = .ok (.aload_n 0, 1) := bdX2_init_0 (63, .aload_n 0, 1) (List.mem_of_getElem? (i := 33) rfl)
theorem dX2_init_64 : decode cX2_init 64 = .ok (.iconst (-1), 1) := bdX2_init_0 (64, .iconst (-1), 1) (List.mem_of_getElem? (i := 34) rfl)
theorem dX2_init_65 : decode cX2_init 65 = .ok (.putfield 47, 3) := bdX2_init_0 (65, .putfield 47, 3) (List.mem_of_getElem? (i := 35) rfl)
theorem dX2_init_68 : decode cX2_init 68 = .ok (.return_, 1) := bdX2_init_0 (68, .return_, 1) (List.mem_of_getElem? (i := 36) rfl)
theorem dX2_init_5 : decode cX2_init 5 = .ok (.new 9, 3) := by decide +kernel
theorem dX2_init_38 : decode cX2_init 38 = .ok (.newarray .int, 2) := by decide +kernel
theorem nX2_9 : clsOK RX2 9 6 2 := ⟨_, _, tyX6, ⟨rfl, iX6, rfl, by decide⟩, tyX6_ok, by decide, tw_183, tw_184, tw_64⟩
theorem kX2_11 : nstI RX2 11 yX6_init prog_8_method_1_code 1 0 := ⟨⟨List.mem_of_getElem? (i := 4) rfl, tw_64, tw_187⟩, by decide +kernel, tw_186, rfl⟩
theorem fX2_12 : fldOK RX2 12 2 0 (.object "LionShield$Tape") true := ⟨_, _, _, tyX2, ⟨rfl, iX2, by decide, rfl, by decide⟩, tw_198, ⟨tyX2_ok, nmX2⟩, by decide +kernel, rfl, rfl⟩
theorem fX2_18 : fldOK RX2 18 2 1 .int false := ⟨_, _, _, tyX2, ⟨rfl, iX2, by decide, rfl, by decide⟩, tw_200, ⟨tyX2_ok, nmX2⟩, by decide +kernel, rfl, rfl⟩
theorem fX2_22 : fldOK RX2 22 2 2 .int false := ⟨_, _, _, tyX2, ⟨rfl, iX2, by decide, rfl, by decide⟩, tw_201, ⟨tyX2_ok, nmX2⟩, by decide +kernel, rfl, rfl⟩
theorem fX2_25 : fldOK RX2 25 2 3 .int false := ⟨_, _, _, tyX2, ⟨rfl, iX2, by decide, rfl, by decide⟩, tw_202, ⟨tyX2_ok, nmX2⟩, by decide +kernel, rfl, rfl⟩
theorem fX2_28 : fldOK RX2 28 2 4 .int false := ⟨_, _, _, tyX2, ⟨rfl, iX2, by decide, rfl, by decide⟩, tw_203, ⟨tyX2_ok, nmX2⟩, by decide +kernel, rfl, rfl⟩
theorem fX2_31 : fldOK RX2 31 2 5 (.array .int) true := ⟨_, _, _, tyX2, ⟨rfl, iX2, by decide, rfl, by decide⟩, tw_204, ⟨tyX2_ok, nmX2⟩, by decide +kernel, rfl, rfl⟩
theorem fX2_35 : fldOK RX2 35 2 6 .int false := ⟨_, _, _, tyX2, ⟨rfl, iX2, by decide, rfl, by decide⟩, tw_205, ⟨tyX2_ok, nmX2⟩, by decide +kernel, rfl, rfl⟩
theorem fX2_38 : fldOK RX2 38 2 7 .int false := ⟨_, _, _, tyX2, ⟨rfl, iX2, by decide, rfl, by decide⟩, tw_206, ⟨tyX2_ok, nmX2⟩, by decide +kernel, rfl, rfl⟩
theorem fX2_41 : fldOK RX2 41 2 8 .int false := ⟨_, _, _, tyX2, ⟨rfl, iX2, by decide, rfl, by decide⟩, tw_207, ⟨tyX2_ok, nmX2⟩, by decide +kernel, rfl, rfl⟩
theorem fX2_44 : fldOK RX2 44 2 9 .int false := ⟨_, _, _, tyX2, ⟨rfl, iX2, by decide, rfl, by decide⟩, tw_208, ⟨tyX2_ok, nmX2⟩, by decide +kernel, rfl, rfl⟩
theorem fX2_47 : fldOK RX2 47 2 10 .int false := ⟨_, _, _, tyX2, ⟨rfl, iX2, by decide, rfl, by decide⟩, tw_209, ⟨tyX2_ok, nmX2⟩, by decide +kernel, rfl, rfl⟩
def wpX2_init (N : Nat) (ln : Nat → Nat) (S : HC) (a0 : Nat) (post : Nat → (Nat → Nat) → HC → Prop) : Prop := nw_ N 6 ln S fun N1 ln S => wpX6_init N1 ln S N fun N2 ln S => lt_ (sR S a0 0 (some N)) fun S => lt_ (sI S a0 1 (0 : Int32)) fun S => lt_ (sI S a0 2 (0 : Int32)) fun S => lt_ (sI S a0 3 (0 : Int32)) fun S => lt_ (sI S a0 4 (-1 : Int32)) fun S => na_ N2 9 (96 : Int32) 96 ln S fun N3 ln S => lt_ (sR S a0 5 (some N2)) fun S => lt_ (sI S a0 6 (0 : Int32)) fun S => lt_ (sI S a0 7 (0 : Int32)) fun S => lt_ (sI S a0 8 (0 : Int32)) fun S => lt_ (sI S a0 9 (0 : Int32)) fun S => lt_ (sI S a0 10 (-1 : Int32)) fun S => post N3 ln S
abbrev rmX2_init : Room := { frames := 2, cells := 3, slots := 194, locals := 40 }
set_option maxHeartbeats 4000000 in
set_option maxRecDepth 100000 in
theorem ctX2_init {l : Launch} {g : GX} {N : Nat} {ln : Nat → Nat} {S : HC} {a0 : Nat} {post : Nat → (Nat → Nat) → HC → Prop} (hr_a0 : a0 < N) (hk_a0 : kd a0 = 2) (h : wpX2_init N ln S a0 post) : Met l yX2_init (Cond.code yX2_init prog_4_method_1_code 1 (Option.none : Option Jvm.ClassFile.FieldType) :: gtbl) rmX2_init (va_Pc [.ref (gz g + a0)] (AtP g N ln S)) (QXV g N post) 3 194 (gF g) := by
  refine m_of (by decide) (Nat.le_of_ble_eq_true rfl) ?_
  intro p e s m below meth c ls F hr I hl
  have hl : lv_has ls 1 [(0, .ref (gz g + a0))] := hl
  unfold wpX2_init at h
  have hN := Nat.le_refl N
  refine lv_aload_n F.1 F.2.1 dX2_init_0 rfl (lv_at hl 0 rfl) ?_
  refine W.objInit F.1 F.2.1 F.2.2.2.1 (F.2.2.2.2 _ tw_182) (F.2.2.2.2 _ tw_83) (F.2.2.2.2 _ tw_84) rfl (by rw [F.2.2.1]; exact hl.1) rfl dX2_init_1 (Nat.le_of_ble_eq_true rfl) (Nat.le_of_ble_eq_true rfl) ?_
  refine W.eq (g2 := F0 m 4 ls []) rfl ?_
  refine lv_aload_n F.1 F.2.1 dX2_init_4 rfl (lv_at hl 0 rfl) ?_
  refine r_new F I nX2_9 h ⟨Nat.le_of_ble_eq_true rfl, Nat.le_of_ble_eq_true rfl⟩ dX2_init_5 (fun N1 ln S H hr_N hk_N I h => ?_)
  have hr_a0 := Nat.lt_of_lt_of_le hr_a0 (Nat.le_of_lt hr_N)
  have hN := Nat.le_trans hN (Nat.le_of_lt hr_N)
  refine lv_dup F.1 F.2.1 dX2_init_8 rfl ?_
  refine g_XV I (run_NI (As := []) (rest := [.ref (gz g + N), .ref (gz g + a0)]) F I kX2_11 (ctX6_init hr_N hk_N h) ⟨rfl, rfl⟩ ⟨Nat.le_of_ble_eq_true rfl, Nat.le_of_ble_eq_true rfl⟩ rfl hl.1 rfl (Nat.le_of_ble_eq_true rfl) ⟨Nat.le_of_ble_eq_true rfl, Nat.le_of_ble_eq_true rfl⟩ dX2_init_9) (fun N2 ln S H locs hNN I h => ?_)
  have hr_a0 := Nat.lt_of_lt_of_le hr_a0 hNN
  have hr_N := Nat.lt_of_lt_of_le hr_N hNN
  have hN := Nat.le_trans hN hNN
  refine r_putN F I hr_a0 hk_a0 fX2_12 (f := 6) rfl (by decide) (Or.inr ⟨hr.2.2, rfl⟩) hr_N hk_N (fun _ => ⟨⟨rfl, rfl⟩, rfl, rfl⟩) dX2_init_12 h (fun S H locs I h => ?_)
  refine lv_aload_n F.1 F.2.1 dX2_init_15 rfl (lv_at hl 0 rfl) ?_
  refine lv_iconst (v := 0) F.1 F.2.1 dX2_init_16 (by decide) ?_
  refine r_putI F I hr_a0 hk_a0 fX2_18 rfl (Or.inl rfl) ⟨rfl, rfl⟩ dX2_init_17 h (fun S H locs I h => ?_)
  refine lv_aload_n F.1 F.2.1 dX2_init_20 rfl (lv_at hl 0 rfl) ?_
  refine lv_iconst (v := 0) F.1 F.2.1 dX2_init_21 (by decide) ?_
  refine r_putI F I hr_a0 hk_a0 fX2_22 rfl (Or.inl rfl) ⟨rfl, rfl⟩ dX2_init_22 h (fun S H locs I h => ?_)
  refine lv_aload_n F.1 F.2.1 dX2_init_25 rfl (lv_at hl 0 rfl) ?_
  refine lv_iconst (v := 0) F.1 F.2.1 dX2_init_26 (by decide) ?_
  refine r_putI F I hr_a0 hk_a0 fX2_25 rfl (Or.inl rfl) ⟨rfl, rfl⟩ dX2_init_27 h (fun S H locs I h => ?_)
  refine lv_aload_n F.1 F.2.1 dX2_init_30 rfl (lv_at hl 0 rfl) ?_
  refine lv_iconst (v := -1) F.1 F.2.1 dX2_init_31 (by decide) ?_
  refine r_putI F I hr_a0 hk_a0 fX2_28 rfl (Or.inl rfl) ⟨rfl, rfl⟩ dX2_init_32 h (fun S H locs I h => ?_)
  refine lv_aload_n F.1 F.2.1 dX2_init_35 rfl (lv_at hl 0 rfl) ?_
  refine lv_bipush (v := 96) F.1 F.2.1 dX2_init_36 (by decide) ?_
  refine r_newa (B := 96) F I h tw_148 ⟨Nat.le_of_ble_eq_true rfl, Nat.le_of_ble_eq_true rfl⟩ (Nat.le_of_ble_eq_true rfl) dX2_init_38 (fun N3 ln S H hr_N2 hk_N2 I h => ?_)
  have hr_a0 := Nat.lt_of_lt_of_le hr_a0 (Nat.le_of_lt hr_N2)
  have hN := Nat.le_trans hN (Nat.le_of_lt hr_N2)
  refine r_putN F I hr_a0 hk_a0 fX2_31 (f := 9) rfl (by decide) (Or.inr ⟨hr.2.2, rfl⟩) hr_N2 hk_N2 (fun _ => ⟨⟨rfl, rfl⟩, rfl, rfl⟩) dX2_init_40 h (fun S H locs I h => ?_)
  refine lv_aload_n F.1 F.2.1 dX2_init_43 rfl (lv_at hl 0 rfl) ?_
  refine lv_iconst (v := 0) F.1 F.2.1 dX2_init_44 (by decide) ?_
  refine r_putI F I hr_a0 hk_a0 fX2_35 rfl (Or.inl rfl) ⟨rfl, rfl⟩ dX2_init_45 h (fun S H locs I h => ?_)
  refine lv_aload_n F.1 F.2.1 dX2_init_48 rfl (lv_at hl 0 rfl) ?_
  refine lv_iconst (v := 0) F.1 F.2.1 dX2_init_49 (by decide) ?_
  refine r_putI F I hr_a0 hk_a0 fX2_38 rfl (Or.inl rfl) ⟨rfl, rfl⟩ dX2_init_50 h (fun S H locs I h => ?_)
  refine lv_aload_n F.1 F.2.1 dX2_init_53 rfl (lv_at hl 0 rfl) ?_
  refine lv_iconst (v := 0) F.1 F.2.1 dX2_init_54 (by decide) ?_
  refine r_putI F I hr_a0 hk_a0 fX2_41 rfl (Or.inl rfl) ⟨rfl, rfl⟩ dX2_init_55 h (fun S H locs I h => ?_)
  refine lv_aload_n F.1 F.2.1 dX2_init_58 rfl (lv_at hl 0 rfl) ?_
  refine lv_iconst (v := 0) F.1 F.2.1 dX2_init_59 (by decide) ?_
  refine r_putI F I hr_a0 hk_a0 fX2_44 rfl (Or.inl rfl) ⟨rfl, rfl⟩ dX2_init_60 h (fun S H locs I h => ?_)
  refine lv_aload_n F.1 F.2.1 dX2_init_63 rfl (lv_at hl 0 rfl) ?_
  refine lv_iconst (v := -1) F.1 F.2.1 dX2_init_64 (by decide) ?_
  refine r_putI F I hr_a0 hk_a0 fX2_47 rfl (Or.inl rfl) ⟨rfl, rfl⟩ dX2_init_65 h (fun S H locs I h => ?_)
  refine W.widen (k := 3) (n := 194) (Nat.le_of_ble_eq_true rfl) (Nat.le_of_ble_eq_true rfl) ?_
  exact r_vreturnX F I ⟨hr.1, hr.2.1, trivial⟩ hN h dX2_init_68
theorem bdX8_init_0 : ∀ q ∈ ([(0, .aload_n 0, 1), (1, .invokespecial 1, 3), (4, .aload_n 0, 1), (5, .sipush 1461, 3), (10, .putfield 9, 3), (13, .aload_n 0, 1), (14, .sipush 1461, 3), (19, .putfield 13, 3), (22, .aload_n 0, 1), (23, .sipush 1461, 3), (28, .putfield 16, 3), (31, .aload_n 0, 1), (32, .bipush 112, 2), (36, .putfield 19, 3), (39, .aload_n 0, 1), (40, .bipush 89, 2), (44, .putfield 22, 3), (47, .aload_n 0, 1), (48, .bipush 96, 2), (52, .putfield 25, 3), (55, .aload_n 0, 1), (56, .bipush 11, 2), (60, .dup, 1), (61, .iconst 0, 1), (62, .bipush 106, 2), (65, .dup, 1), (66, .iconst 1, 1), (67, .bipush 111, 2), (70, .dup, 1), (71, .iconst 2, 1), (72, .bipush 105, 2), (75, .dup, 1), (76, .iconst 3, 1), (77, .bipush 110, 2), (80, .dup, 1), (81, .iconst 4, 1), (82, .bipush 102, 2), (85, .dup, 1), (86, .iconst 5, 1), (87, .bipush 101, 2)] : List (Nat × Jvm.ClassFile.Instr × Nat)), decode cX8_init q.1 = .ok q.2 := chk_ok _ 0 _ rfl (by decide +kernel)
theorem dX8_init_0 : decode cX8_init 0 = .ok (.aload_n 0, 1) := bdX8_init_0 (0, .aload_n 0, 1) (List.mem_of_getElem? (i := 0) rfl)
theorem dX8_init_1 : decode cX8_init 1 = .ok (.invokespecial 1, 3) := bdX8_init_0 (1, .invokespecial 1, 3) (List.mem_of_getElem? (i := 1) rfl)
theorem dX8_init_4 : decode cX8_init 4 = .ok (.aload_n 0, 1) := bdX8_init_0 (4, .aload_n 0, 1) (List.mem_of_getElem? (i := 2) rfl)
theorem dX8_init_5 : decode cX8_init 5 = .ok (.sipush 1461, 3) := bdX8_init_0 (5, .sipush 1461, 3) (List.mem_of_getElem? (i := 3) rfl)
theorem dX8_init_10 : decode cX8_init 10 = .ok (.putfield 9, 3) := bdX8_init_0 (10, .putfield 9, 3) (List.mem_of_getElem? (i := 4) rfl)
theorem dX8_init_13 : decode cX8_init 13 = .ok (.aload_n 0, 1) := bdX8_init_0 (13, .aload_n 0, 1) (List.mem_of_getElem? (i := 5) rfl)
theorem dX8_init_14 : decode cX8_init 14 = .ok (.sipush 1461, 3) := bdX8_init_0 (14, .sipush 1461, 3) (List.mem_of_getElem? (i := 6) rfl)
theorem dX8_init_19 : decode cX8_init 19 = .ok (.putfield 13, 3) := bdX8_init_0 (19, .putfield 13, 3) (List.mem_of_getElem? (i := 7) rfl)
theorem dX8_init_22 : decode cX8_init 22 = .ok (.aload_n 0, 1) := bdX8_init_0 (22, .aload_n 0, 1) (List.mem_of_getElem? (i := 8) rfl)
theorem dX8_init_23 : decode cX8_init 23 = .ok (.sipush 1461, 3) := bdX8_init_0 (23, .sipush 1461, 3) (List.mem_of_getElem? (i := 9) rfl)
theorem dX8_init_28 : decode cX8_init 28 = .ok (.putfield 16, 3) := bdX8_init_0 (28, .putfield 16, 3) (List.mem_of_getElem? (i := 10) rfl)
theorem dX8_init_31 : decode cX8_init 31 = .ok (.aload_n 0, 1) := bdX8_init_0 (31, .aload_n 0, 1) (List.mem_of_getElem? (i := 11) rfl)
theorem dX8_init_32 : decode cX8_init 32 = .ok (.bipush 112, 2) := bdX8_init_0 (32, .bipush 112, 2) (List.mem_of_getElem? (i := 12) rfl)
theorem dX8_init_36 : decode cX8_init 36 = .ok (.putfield 19, 3) := bdX8_init_0 (36, .putfield 19, 3) (List.mem_of_getElem? (i := 13) rfl)
theorem dX8_init_39 : decode cX8_init 39 = .ok (.aload_n 0, 1) := bdX8_init_0 (39, .aload_n 0, 1) (List.mem_of_getElem? (i := 14) rfl)
theorem dX8_init_40 : decode cX8_init 40 = .ok (.bipush 89, 2) := bdX8_init_0 (40, .bipush 89, 2) (List.mem_of_getElem? (i := 15) rfl)
theorem dX8_init_44 : decode cX8_init 44 = .ok (.putfield 22, 3) := bdX8_init_0 (44, .putfield 22, 3) (List.mem_of_getElem? (i := 16) rfl)
theorem dX8_init_47 : decode cX8_init 47 = .ok (.aload_n 0, 1) := bdX8_init_0 (47, .aload_n 0, 1) (List.mem_of_getElem? (i := 17) rfl)
theorem dX8_init_48 : decode cX8_init 48 = .ok (.bipush 96, 2) := bdX8_init_0 (48, .bipush 96, 2) (List.mem_of_getElem? (i := 18) rfl)
theorem dX8_init_52 : decode cX8_init 52 = .ok (.putfield 25, 3) := bdX8_init_0 (52, .putfield 25, 3) (List.mem_of_getElem? (i := 19) rfl)
theorem dX8_init_55 : decode cX8_init 55 = .ok (.aload_n 0, 1) := bdX8_init_0 (55, .aload_n 0, 1) (List.mem_of_getElem? (i := 20) rfl)
theorem dX8_init_56 : decode cX8_init 56 = .ok (.bipush 11, 2) := bdX8_init_0 (56, .bipush 11, 2) (List.mem_of_getElem? (i := 21) rfl)
theorem dX8_init_60 : decode cX8_init 60 = .ok (.dup, 1) := bdX8_init_0 (60, .dup, 1) (List.mem_of_getElem? (i := 22) rfl)
theorem dX8_init_61 : decode cX8_init 61 = .ok (.iconst 0, 1) := bdX8_init_0 (61, .iconst 0, 1) (List.mem_of_getElem? (i := 23) rfl)
theorem dX8_init_62 : decode cX8_init 62 = .ok (.bipush 106, 2) := bdX8_init_0 (62, .bipush 106, 2) (List.mem_of_getElem? (i := 24) rfl)
theorem dX8_init_65 : decode cX8_init 65 = .ok (.dup, 1) := bdX8_init_0 (65, .dup, 1) (List.mem_of_getElem? (i := 25) rfl)
theorem dX8_init_66 : decode cX8_init 66 = .ok (.iconst 1, 1) := bdX8_init_0 (66, .iconst 1, 1) (List.mem_of_getElem? (i := 26) rfl)
theorem dX8_init_67 : decode cX8_init 67 = .ok (.bipush 111, 2) := bdX8_init_0 (67, .bipush 111, 2) (List.mem_of_getElem? (i := 27) rfl)
theorem dX8_init_70 : decode cX8_init 70 = .ok (.dup, 1) := bdX8_init_0 (70, .dup, 1) (List.mem_of_getElem? (i := 28) rfl)
theorem dX8_init_71 : decode cX8_init 71 = .ok (.iconst 2, 1) := bdX8_init_0 (71, .iconst 2, 1) (List.mem_of_getElem? (i := 29) rfl)
theorem dX8_init_72 : decode cX8_init 72 = .ok (.bipush 105, 2) := bdX8_init_0 (72, .bipush 105, 2) (List.mem_of_getElem? (i := 30) rfl)
theorem dX8_init_75 : decode cX8_init 75 = .ok (.dup, 1) := bdX8_init_0 (75, .dup, 1) (List.mem_of_getElem? (i := 31) rfl)
theorem dX8_init_76 : decode cX8_init 76 = .ok (.iconst 3, 1) := bdX8_init_0 (76, .iconst 3, 1) (List.mem_of_getElem? (i := 32) rfl)
theorem dX8_init_77 : decode cX8_init 77 = .ok (.bipush 110, 2) := bdX8_init_0 (77, .bipush 110, 2) (List.mem_of_getElem? (i := 33) rfl)
theorem dX8_init_80 : decode cX8_init 80 = .ok (.dup, 1) := bdX8_init_0 (80, .dup, 1) (List.mem_of_getElem? (i := 34) rfl)
theorem dX8_init_81 : decode cX8_init 81 = .ok (.iconst 4, 1) := bdX8_init_0 (81, .iconst 4, 1) (List.mem_of_getElem? (i := 35) rfl)
theorem dX8_init_82 : decode cX8_init 82 = .ok (.bipush 102, 2) := bdX8_init_0 (82, .bipush 102, 2) (List.mem_of_getElem? (i := 36) rfl)
theorem dX8_init_85 : decode cX8_init 85 = .ok (.dup, 1) := bdX8_init_0 (85, .dup, 1) (List.mem_of_getElem? (i := 37) rfl)
theorem dX8_init_86 : decode cX8_init 86 = .ok (.iconst 5, 1) := bdX8_init_0 (86, .iconst 5, 1) (List.mem_of_getElem? (i := 38) rfl)
theorem dX8_init_87 : decode cX8_init 87 = .ok (.bipush 101, 2) := bdX8_init_0 (87, .bipush 101, 2) (List.mem_of_getElem? (i := 39) rfl)
theorem bdX8_init_90 : ∀ q ∈ ([(90, .dup, 1), (91, .bipush 6, 2), (93, .bipush 101, 2), (96, .dup, 1), (97, .bipush 7, 2), (99, .bipush 102, 2), (102, .dup, 1), (103, .bipush 8, 2), (105, .bipush 105, 2), (108, .dup, 1), (109, .bipush 9, 2), (111, .bipush 110, 2), (114, .dup, 1), (115, .bipush 10, 2), (117, .bipush 101, 2), (120, .putfield 28, 3), (123, .aload_n 0, 1), (124, .iconst 4, 1), (127, .dup, 1), (128, .iconst 0, 1), (129, .iconst 0, 1), (130, .iastore, 1), (131, .dup, 1), (132, .iconst 1, 1), (133, .iconst 4, 1), (134, .iastore, 1), (135, .dup, 1), (136, .iconst 2, 1), (137, .bipush 7, 2), (139, .iastore, 1), (140, .dup, 1), (141, .iconst 3, 1), (142, .bipush 11, 2), (144, .iastore, 1), (145, .putfield 32, 3), (148, .aload_n 0, 1), (149, .bipush 96, 2), (153, .putfield 35, 3), (156, .aload_n 0, 1), (157, .bipush 96, 2)] : List (Nat × Jvm.ClassFile.Instr × Nat)), decode cX8_init q.1 = .ok q.2 := chk_ok _ 90 _ rfl (by decide +kernel)
theorem dX8_init_90 : decode cX8_init 90 = .ok (.dup, 1) := bdX8_init_90 (90, .dup, 1) (List.mem_of_getElem? (i := 0) rfl)
theorem dX8_init_91 : decode cX8_init 91 = .ok (.bipush 6, 2) := bdX8_init_90 (91, .bipush 6, 2) (List.mem_of_getElem? (i := 1) rfl)
theorem dX8_init_93 : decode cX8_init 93 = .ok (.bipush 101, 2) := bdX8_init_90 (93, .bipush 101, 2) (List.mem_of_getElem? (i := 2) rfl)
theorem dX8_init_96 : decode cX8_init 96 = .ok (.dup, 1) := bdX8_init_90 (96, .dup, 1) (List.mem_of_getElem? (i := 3) rfl)
theorem dX8_init_97 : decode cX8_init 97 = .ok (.bipush 7, 2) := bdX8_init_90 (97, .bipush 7, 2) (List.mem_of_getElem? (i := 4) rfl)
theorem dX8_init_99 : decode cX8_init 99 = .ok (.bipush 102, 2) := bdX8_init_90 (99, .bipush 102, 2) (List.mem_of_getElem? (i := 5) rfl)
theorem dX8_init_102 : decode cX8_init 102 = .ok (.dup, 1) := bdX8_init_90 (102, .dup, 1) (List.mem_of_getElem? (i := 6) rfl)
theorem dX8_init_103 : decode cX8_init 103 = .ok (.bipush 8, 2) := bdX8_init_90 (103, .bipush 8, 2) (List.mem_of_getElem? (i := 7) rfl)
theorem dX8_init_105 : decode cX8_init 105 = .ok (.bipush 105, 2) := bdX8_init_90 (105, .bipush 105, 2) (List.mem_of_getElem? (i := 8) rfl)
theorem dX8_init_108 : decode cX8_init 108 = .ok (.dup, 1) := bdX8_init_90 (108, .dup, 1) (List.mem_of_getElem? (i := 9) rfl)
theorem dX8_init_109 : decode cX8_init 109 = .ok (.bipush 9, 2) := bdX8_init_90 (109, .bipush 9, 2) (List.mem_of_getElem? (i := 10) rfl)
theorem dX8_init_111 : decode cX8_init 111 = .ok (.bipush 110, 2) := bdX8_init_90 (111, .bipush 110, 2) (List.mem_of_getElem? (i := 11) rfl)
theorem dX8_init_114 : decode cX8_init 114 = .ok (.dup, 1) := bdX8_init_90 (114, .dup, 1) (List.mem_of_getElem? (i := 12) rfl)
theorem dX8_init_115 : decode cX8_init 115 = .ok (.bipush 10, 2) := bdX8_init_90 (115, .bipush 10, 2) (List.mem_of_getElem? (i := 13) rfl)
theorem dX8_init_117 : decode cX8_init 117 = .ok (.bipush 101, 2) := bdX8_init_90 (117, .bipush 101, 2) (List.mem_of_getElem? (i := 14) rfl)
theorem dX8_init_120 : decode cX8_init 120 = .ok (.putfield 28, 3) := bdX8_init_90 (120, .putfield 28, 3) (List.mem_of_getElem? (i := 15) rfl)
theorem dX8_init_123 : decode cX8_init 123 = .ok (.aload_n 0, 1) := bdX8_init_90 (123, .aload_n 0, 1) (List.mem_of_getElem? (i := 16) rfl)
theorem dX8_init_124 : decode cX8_init 124 = .ok (.iconst 4, 1) := bdX8_init_90 (124, .iconst 4, 1) (List.mem_of_getElem? (i := 17) rfl)
theorem dX8_init_127 : decode cX8_init 127 = .ok (.dup, 1) := bdX8_init_90 (127, .dup, 1) (List.mem_of_getElem? (i := 18) rfl)
theorem dX8_init_128 : decode cX8_init 128 = .ok (.iconst 0, 1) := bdX8_init_90 (128, .iconst 0, 1) (List.mem_of_getElem? (i := 19) rfl)
theorem dX8_init_129 : decode cX8_init 129 = .ok (.iconst 0, 1) := bdX8_init_90 (129, .iconst 0, 1) (List.mem_of_getElem? (i := 20) rfl)
theorem dX8_init_130 : decode cX8_init 130 = .ok (.iastore, 1) := bdX8_init_90 (130, .iastore, 1) (List.mem_of_getElem? (i := 21) rfl)
theorem dX8_init_131 : decode cX8_init 131 = .ok (.dup, 1) := bdX8_init_90 (131, .dup, 1) (List.mem_of_getElem? (i := 22) rfl)
theorem dX8_init_132 : decode cX8_init 132 = .ok (.iconst 1, 1) := bdX8_init_90 (132, .iconst 1, 1) (List.mem_of_getElem? (i := 23) rfl)
theorem dX8_init_133 : decode cX8_init 133 = .ok (.iconst 4, 1) := bdX8_init_90 (133, .iconst 4, 1) (List.mem_of_getElem? (i := 24) rfl)
theorem dX8_init_134 : decode cX8_init 134 = .ok (.iastore, 1) := bdX8_init_90 (134, .iastore, 1) (List.mem_of_getElem? (i := 25) rfl)
theorem dX8_init_135 : decode cX8_init 135 = .ok (.dup, 1) := bdX8_init_90 (135, .dup, 1) (List.mem_of_getElem? (i := 26) rfl)
theorem dX8_init_136 : decode cX8_init 136 = .ok (.iconst 2, 1) := bdX8_init_90 (136, .iconst 2, 1) (List.mem_of_getElem? (i := 27) rfl)
theorem dX8_init_137 : decode cX8_init 137 = .ok (.bipush 7, 2) := bdX8_init_90 (137, .bipush 7, 2) (List.mem_of_getElem? (i := 28) rfl)
theorem dX8_init_139 : decode cX8_init 139 = .ok (.iastore, 1) := bdX8_init_90 (139, .iastore, 1) (List.mem_of_getElem? (i := 29) rfl)
theorem dX8_init_140 : decode cX8_init 140 = .ok (.dup, 1) := bdX8_init_90 (140, .dup, 1) (List.mem_of_getElem? (i := 30) rfl)
theorem dX8_init_141 : decode cX8_init 141 = .ok (.iconst 3, 1) := bdX8_init_90 (141, .iconst 3, 1) (List.mem_of_getElem? (i := 31) rfl)
theorem dX8_init_142 : decode cX8_init 142 = .ok (.bipush 11, 2) := bdX8_init_90 (142, .bipush 11, 2) (List.mem_of_getElem? (i := 32) rfl)
theorem dX8_init_144 : decode cX8_init 144 = .ok (.iastore, 1) := bdX8_init_90 (144, .iastore, 1) (List.mem_of_getElem? (i := 33) rfl)
theorem dX8_init_145 : decode cX8_init 145 = .ok (.putfield 32, 3) := bdX8_init_90 (145, .putfield 32, 3) (List.mem_of_getElem? (i := 34) rfl)
theorem dX8_init_148 : decode cX8_init 148 = .ok (.aload_n 0, 1) := bdX8_init_90 (148, .aload_n 0, 1) (List.mem_of_getElem? (i := 35) rfl)
theorem dX8_init_149 : decode cX8_init 149 = .ok (.bipush 96, 2) := bdX8_init_90 (149, .bipush 96, 2) (List.mem_of_getElem? (i := 36) rfl)
theorem dX8_init_153 : decode cX8_init 153 = .ok (.putfield 35, 3) := bdX8_init_90 (153, .putfield 35, 3) (List.mem_of_getElem? (i := 37) rfl)
theorem dX8_init_156 : decode cX8_init 156 = .ok (.aload_n 0, 1) := bdX8_init_90 (156, .aload_n 0, 1) (List.mem_of_getElem? (i := 38) rfl)
theorem dX8_init_157 : decode cX8_init 157 = .ok (.bipush 96, 2) := bdX8_init_90 (157, .bipush 96, 2) (List.mem_of_getElem? (i := 39) rfl)
theorem bdX8_init_161 : ∀ q ∈ ([(161, .putfield 38, 3), (164, .aload_n 0, 1), (165, .bipush 10, 2), (169, .putfield 41, 3), (172, .aload_n 0, 1), (173, .bipush 96, 2), (177, .putfield 45, 3), (180, .aload_n 0, 1), (181, .iconst 4, 1), (184, .putfield 48, 3), (187, .aload_n 0, 1), (188, .iconst 4, 1), (191, .dup, 1), (192, .iconst 0, 1), (193, .iconst (-1), 1), (194, .iastore, 1), (195, .dup, 1), (196, .iconst 1, 1), (197, .iconst (-1), 1), (198, .iastore, 1), (199, .dup, 1), (200, .iconst 2, 1), (201, .iconst (-1), 1), (202, .iastore, 1), (203, .dup, 1), (204, .iconst 3, 1), (205, .iconst (-1), 1), (206, .iastore, 1), (207, .putfield 51, 3), (210, .aload_n 0, 1), (211, .iconst 4, 1), (214, .putfield 54, 3), (217, .aload_n 0, 1), (218, .bipush 96, 2), (222, .putfield 57, 3), (225, .aload_n 0, 1), (226, .iconst 5, 1), (229, .putfield 60, 3), (232, .aload_n 0, 1), (233, .iconst 5, 1)] : List (Nat × Jvm.ClassFile.Instr × Nat)), decode cX8_init q.1 = .ok q.2 := chk_ok _ 161 _ rfl (by decide +kernel)
theorem dX8_init_161 : decode cX8_init 161 = .ok (.putfield 38, 3) := bdX8_init_161 (161, .putfield 38, 3) (List.mem_of_getElem? (i := 0) rfl)
theorem dX8_init_164 : decode cX8_init 164 = .ok (.aload_n 0, 1) := bdX8_init_161 (164, .aload_n 0, 1) (List.mem_of_getElem? (i := 1) rfl)
theorem dX8_init_165 : decode cX8_init 165 = .ok (.bipush 10, 2) := bdX8_init_161 (165, .bipush 10, 2) (List.mem_of_getElem? (i := 2) rfl)
theorem dX8_init_169 : decode cX8_init 169 = .ok (.putfield 41, 3) := bdX8_init_161 (169, .putfield 41, 3) (List.mem_of_getElem? (i := 3) rfl)
theorem dX8_init_172 : decode cX8_init 172 = .ok (.aload_n 0, 1) := bdX8_init_161 (172, .aload_n 0, 1) (List.mem_of_getElem? (i := 4) rfl)
theorem dX8_init_173 : decode cX8_init 173 = .ok (.bipush 96, 2) := bdX8_init_161 (173, .bipush 96, 2) (List.mem_of_getElem? (i := 5) rfl)
theorem dX8_init_177 : decode cX8_init 177 = .ok (.putfield 45, 3) := bdX8_init_161 (177, .putfield 45, 3) (List.mem_of_getElem? (i := 6) rfl)
theorem dX8_init_180 : decode cX8_init 180 = .ok (.aload_n 0, 1) := bdX8_init_161 (180, .aload_n 0, 1) (List.mem_of_getElem? (i := 7) rfl)
theorem dX8_init_181 : decode cX8_init 181 = .ok (.iconst 4, 1) := bdX8_init_161 (181, .iconst 4, 1) (List.mem_of_getElem? (i := 8) rfl)
theorem dX8_init_184 : decode cX8_init 184 = .ok (.putfield 48, 3) := bdX8_init_161 (184, .putfield 48, 3) (List.mem_of_getElem? (i := 9) rfl)
theorem dX8_init_187 : decode cX8_init 187 = .ok (.aload_n 0, 1) := bdX8_init_161 (187, .aload_n 0, 1) (List.mem_of_getElem? (i := 10) rfl)
theorem dX8_init_188 : decode cX8_init 188 = .ok (.iconst 4, 1) := bdX8_init_161 (188, .iconst 4, 1) (List.mem_of_getElem? (i := 11) rfl)
theorem dX8_init_191 : decode cX8_init 191 = .ok (.dup, 1) := bdX8_init_161 (191, .dup, 1) (List.mem_of_getElem? (i := 12) rfl)
theorem dX8_init_192 : decode cX8_init 192 = .ok (.iconst 0, 1) := bdX8_init_161 (192, .iconst 0, 1) (List.mem_of_getElem? (i := 13) rfl)
theorem dX8_init_193 : decode cX8_init 193 = .ok (.iconst (-1), 1) := bdX8_init_161 (193, .iconst (-1), 1) (List.mem_of_getElem? (i := 14) rfl)
theorem dX8_init_194 : decode cX8_init 194 = .ok (.iastore, 1) := bdX8_init_161 (194, .iastore, 1) (List.mem_of_getElem? (i := 15) rfl)
theorem dX8_init_195 : decode cX8_init 195 = .ok (.dup, 1) := bdX8_init_161 (195, .dup, 1) (List.mem_of_getElem? (i := 16) rfl)
theorem dX8_init_196 : decode cX8_init 196 = .ok (.iconst 1, 1) := bdX8_init_161 (196, .iconst 1, 1) (List.mem_of_getElem? (i := 17) rfl)
theorem dX8_init_197 : decode cX8_init 197 = .ok (.iconst (-1), 1) := bdX8_init_161 (197, .iconst (-1), 1) (List.mem_of_getElem? (i := 18) rfl)
theorem dX8_init_198 : decode cX8_init 198 = .ok (.iastore, 1) := bdX8_init_161 (198, .iastore, 1) (List.mem_of_getElem? (i := 19) rfl)
theorem dX8_init_199 : decode cX8_init 199 = .ok (.dup, 1) := bdX8_init_161 (199, .dup, 1) (List.mem_of_getElem? (i := 20) rfl)
theorem dX8_init_200 : decode cX8_init 200 = .ok (.iconst 2, 1) := bdX8_init_161 (200, .iconst 2, 1) (List.mem_of_getElem? (i := 21) rfl)
theorem dX8_init_201 : decode cX8_init 201 = .ok (.iconst (-1), 1) := bdX8_init_161 (201, .iconst (-1), 1) (List.mem_of_getElem? (i := 22) rfl)
theorem dX8_init_202 : decode cX8_init 202 = .ok (.iastore, 1) := bdX8_init_161 (202, .iastore, 1) (List.mem_of_getElem? (i := 23) rfl)
theorem dX8_init_203 : decode cX8_init 203 = .ok (.dup, 1) := bdX8_init_161 (203, .dup, 1) (List.mem_of_getElem? (i := 24) rfl)
theorem dX8_init_204 : decode cX8_init 204 = .ok (.iconst 3, 1) := bdX8_init_161 (204, .iconst 3, 1) (List.mem_of_getElem? (i := 25) rfl)
theorem dX8_init_205 : decode cX8_init 205 = .ok (.iconst (-1), 1) := bdX8_init_161 (205, .iconst (-1), 1) (List.mem_of_getElem? (i := 26) rfl)
theorem dX8_init_206 : decode cX8_init 206 = .ok (.iastore, 1) := bdX8_init_161 (206, .iastore, 1) (List.mem_of_getElem? (i := 27) rfl)
theorem dX8_init_207 : decode cX8_init 207 = .ok (.putfield 51, 3) := bdX8_init_161 (207, .putfield 51, 3) (List.mem_of_getElem? (i := 28) rfl)
theorem dX8_init_210 : decode cX8_init 210 = .ok (.aload_n 0, 1) := bdX8_init_161 (210, .aload_n 0, 1) (List.mem_of_getElem? (i := 29) rfl)
theorem dX8_init_211 : decode cX8_init 211 = .ok (.iconst 4, 1) := bdX8_init_161 (211, .iconst 4, 1) (List.mem_of_getElem? (i := 30) rfl)
theorem dX8_init_214 : decode cX8_init 214 = .ok (.putfield 54, 3) := bdX8_init_161 (214, .putfield 54, 3) (List.mem_of_getElem? (i := 31) rfl)
theorem dX8_init_217 : decode cX8_init 217 = .ok (.aload_n 0, 1) := bdX8_init_161 (217, .aload_n 0, 1) (List.mem_of_getElem? (i := 32) rfl)
theorem dX8_init_218 : decode cX8_init 218 = .ok (.bipush 96, 2) := bdX8_init_161 (218, .bipush 96, 2) (List.mem_of_getElem? (i := 33) rfl)
theorem dX8_init_222 : decode cX8_init 222 = .ok (.putfield 57, 3) := bdX8_init_161 (222, .putfield 57, 3) (List.mem_of_getElem? (i := 34) rfl)
theorem dX8_init_225 : decode cX8_init 225 = .ok (.aload_n 0, 1) := bdX8_init_161 (225, .aload_n 0, 1) (List.mem_of_getElem? (i := 35) rfl)
theorem dX8_init_226 : decode cX8_init 226 = .ok (.iconst 5, 1) := bdX8_init_161 (226, .iconst 5, 1) (List.mem_of_getElem? (i := 36) rfl)
theorem dX8_init_229 : decode cX8_init 229 = .ok (.putfield 60, 3) := bdX8_init_161 (229, .putfield 60, 3) (List.mem_of_getElem? (i := 37) rfl)
theorem dX8_init_232 : decode cX8_init 232 = .ok (.aload_n 0, 1) := bdX8_init_161 (232, .aload_n 0, 1) (List.mem_of_getElem? (i := 38) rfl)
theorem dX8_init_233 : decode cX8_init 233 = .ok (.iconst 5, 1) := bdX8_init_161 (233, .iconst 5, 1) (List.mem_of_getElem? (i := 39) rfl)
theorem bdX8_init_236 : ∀ q ∈ ([(236, .putfield 63, 3), (239, .aload_n 0, 1), (240, .iconst 5, 1), (243, .putfield 66, 3), (246, .aload_n 0, 1), (247, .bipush 120, 2), (251, .putfield 69, 3), (254, .aload_n 0, 1), (255, .bipush 24, 2), (259, .putfield 72, 3), (262, .aload_n 0, 1), (263, .bipush 60, 2), (267, .putfield 75, 3), (270, .aload_n 0, 1), (271, .getfield 9, 3), (274, .iconst 0, 1), (275, .iconst 1, 1), (276, .iastore, 1), (277, .aload_n 0, 1), (278, .getfield 9, 3), (281, .iconst 3, 1), (282, .bipush 30, 2), (284, .iastore, 1), (285, .return_, 1)] : List (Nat × Jvm.ClassFile.Instr × Nat)), decode cX8_init q.1 = .ok q.2 := chk_ok _ 236 _ rfl (by decide +kernel)
theorem dX8_init_236 : decode cX8_init 236 = .ok (.putfield 63, 3) := bdX8_init_236 (236, .putfield 63, 3) (List.mem_of_getElem? (i := 0) rfl)
theorem dX8_init_239 : decode cX8_init 239 = .ok (.aload_n 0, 1) := bdX8_init_236 (239, .aload_n 0, 1) (List.mem_of_getElem? (i := 1) rfl)
theorem dX8_init_240 : decode cX8_init 240 = .ok (.iconst 5, 1) := bdX8_init_236 (240, .iconst 5, 1) (List.mem_of_getElem? (i := 2) rfl)
theorem dX8_init_243 : decode cX8_init 243 = .ok (.putfield 66, 3) := bdX8_init_236 (243, .putfield 66, 3) (List.mem_of_getElem? (i := 3) rfl)
theorem dX8_init_246 : decode cX8_init 246 = .ok (.aload_n 0, 1) := bdX8_init_236 (246, .aload_n 0, 1) (List.mem_of_getElem? (i := 4) rfl)
theorem dX8_init_247 : decode cX8_init 247 = .ok (.bipush 120, 2) := bdX8_init_236 (247, .bipush 120, 2) (List.mem_of_getElem? (i := 5) rfl)
theorem dX8_init_251 : decode cX8_init 251 = .ok (.putfield 69, 3) := bdX8_init_236 (251, .putfield 69, 3) (List.mem_of_getElem? (i := 6) rfl)
theorem dX8_init_254 : decode cX8_init 254 = .ok (.aload_n 0, 1) := bdX8_init_236 (254, .aload_n 0, 1) (List.mem_of_getElem? (i := 7) rfl)
theorem dX8_init_255 : decode cX8_init 255 = .ok (.bipush 24, 2) := bdX8_init_236 (255, .bipush 24, 2) (List.mem_of_getElem? (i := 8) rfl)
theorem dX8_init_259 : decode cX8_init 259 = .ok (.putfield 72, 3) := bdX8_init_236 (259, .putfield 72, 3) (List.mem_of_getElem? (i := 9) rfl)
theorem dX8_init_262 : decode cX8_init 262 = .ok (.aload_n 0, 1) := bdX8_init_236 (262, .aload_n 0, 1) (List.mem_of_getElem? (i := 10) rfl)
theorem dX8_init_263 : decode cX8_init 263 = .ok (.bipush 60, 2) := bdX8_init_236 (263, .bipush 60, 2) (List.mem_of_getElem? (i := 11) rfl)
theorem dX8_init_267 : decode cX8_init 267 = .ok (.putfield 75, 3) := bdX8_init_236 (267, .putfield 75, 3) (List.mem_of_getElem? (i := 12) rfl)
theorem dX8_init_270 : decode cX8_init 270 = .ok (.aload_n 0, 1) := bdX8_init_236 (270, .aload_n 0, 1) (List.mem_of_getElem? (i := 13) rfl)
theorem dX8_init_271 : decode cX8_init 271 = .ok (.getfield 9, 3) := bdX8_init_236 (271, .getfield 9, 3) (List.mem_of_getElem? (i := 14) rfl)
theorem dX8_init_274 : decode cX8_init 274 = .ok (.iconst 0, 1) := bdX8_init_236 (274, .iconst 0, 1) (List.mem_of_getElem? (i := 15) rfl)
theorem dX8_init_275 : decode cX8_init 275 = .ok (.iconst 1, 1) := bdX8_init_236 (275, .iconst 1, 1) (List.mem_of_getElem? (i := 16) rfl)
theorem dX8_init_276 : decode cX8_init 276 = .ok (.iastore, 1) := bdX8_init_236 (276, .iastore, 1) (List.mem_of_getElem? (i := 17) rfl)
theorem dX8_init_277 : decode cX8_init 277 = .ok (.aload_n 0, 1) := bdX8_init_236 (277, .aload_n 0, 1) (List.mem_of_getElem? (i := 18) rfl)
theorem dX8_init_278 : decode cX8_init 278 = .ok (.getfield 9, 3) := bdX8_init_236 (278, .getfield 9, 3) (List.mem_of_getElem? (i := 19) rfl)
theorem dX8_init_281 : decode cX8_init 281 = .ok (.iconst 3, 1) := bdX8_init_236 (281, .iconst 3, 1) (List.mem_of_getElem? (i := 20) rfl)
theorem dX8_init_282 : decode cX8_init 282 = .ok (.bipush 30, 2) := bdX8_init_236 (282, .bipush 30, 2) (List.mem_of_getElem? (i := 21) rfl)
theorem dX8_init_284 : decode cX8_init 284 = .ok (.iastore, 1) := bdX8_init_236 (284, .iastore, 1) (List.mem_of_getElem? (i := 22) rfl)
theorem dX8_init_285 : decode cX8_init 285 = .ok (.return_, 1) := bdX8_init_236 (285, .return_, 1) (List.mem_of_getElem? (i := 23) rfl)
theorem budX8_init_8 : ∀ q ∈ ([(8, .ok (.newarray .int, 2)), (17, .ok (.newarray .int, 2)), (26, .ok (.newarray .int, 2)), (34, .ok (.newarray .int, 2)), (42, .ok (.newarray .int, 2)), (50, .ok (.newarray .int, 2)), (58, .ok (.newarray .char, 2)), (64, .ok (.castore, 1)), (69, .ok (.castore, 1)), (74, .ok (.castore, 1)), (79, .ok (.castore, 1)), (84, .ok (.castore, 1)), (89, .ok (.castore, 1)), (95, .ok (.castore, 1)), (101, .ok (.castore, 1)), (107, .ok (.castore, 1)), (113, .ok (.castore, 1)), (119, .ok (.castore, 1)), (125, .ok (.newarray .int, 2)), (151, .ok (.newarray .int, 2)), (159, .ok (.newarray .int, 2)), (167, .ok (.newarray .boolean, 2)), (175, .ok (.newarray .int, 2)), (182, .ok (.newarray .int, 2)), (189, .ok (.newarray .int, 2)), (212, .ok (.newarray .int, 2)), (220, .ok (.newarray .int, 2)), (227, .ok (.newarray .int, 2)), (234, .ok (.newarray .int, 2)), (241, .ok (.newarray .int, 2)), (249, .ok (.newarray .int, 2)), (257, .ok (.newarray .int, 2)), (265, .ok (.newarray .int, 2))] : List (Nat × Except Jvm.ClassFile.DecodeError (Jvm.ClassFile.Instr × Nat))), decode cX8_init q.1 = q.2 := by decide +kernel
theorem dX8_init_8 : decode cX8_init 8 = .ok (.newarray .int, 2) := budX8_init_8 (8, .ok (.newarray .int, 2)) (List.mem_of_getElem? (i := 0) rfl)
theorem dX8_init_17 : decode cX8_init 17 = .ok (.newarray .int, 2) := budX8_init_8 (17, .ok (.newarray .int, 2)) (List.mem_of_getElem? (i := 1) rfl)
theorem dX8_init_26 : decode cX8_init 26 = .ok (.newarray .int, 2) := budX8_init_8 (26, .ok (.newarray .int, 2)) (List.mem_of_getElem? (i := 2) rfl)
theorem dX8_init_34 : decode cX8_init 34 = .ok (.newarray .int, 2) := budX8_init_8 (34, .ok (.newarray .int, 2)) (List.mem_of_getElem? (i := 3) rfl)
theorem dX8_init_42 : decode cX8_init 42 = .ok (.newarray .int, 2) := budX8_init_8 (42, .ok (.newarray .int, 2)) (List.mem_of_getElem? (i := 4) rfl)
theorem dX8_init_50 : decode cX8_init 50 = .ok (.newarray .int, 2) := budX8_init_8 (50, .ok (.newarray .int, 2)) (List.mem_of_getElem? (i := 5) rfl)
theorem dX8_init_58 : decode cX8_init 58 = .ok (.newarray .char, 2) := budX8_init_8 (58, .ok (.newarray .char, 2)) (List.mem_of_getElem? (i := 6) rfl)
theorem dX8_init_64 : decode cX8_init 64 = .ok (.castore, 1) := budX8_init_8 (64, .ok (.castore, 1)) (List.mem_of_getElem? (i := 7) rfl)
theorem dX8_init_69 : decode cX8_init 69 = .ok (.castore, 1) := budX8_init_8 (69, .ok (.castore, 1)) (List.mem_of_getElem? (i := 8) rfl)
theorem dX8_init_74 : decode cX8_init 74 = .ok (.castore, 1) := budX8_init_8 (74, .ok (.castore, 1)) (List.mem_of_getElem? (i := 9) rfl)
theorem dX8_init_79 : decode cX8_init 79 = .ok (.castore, 1) := budX8_init_8 (79, .ok (.castore, 1)) (List.mem_of_getElem? (i := 10) rfl)
theorem dX8_init_84 : decode cX8_init 84 = .ok (.castore, 1) := budX8_init_8 (84, .ok (.castore, 1)) (List.mem_of_getElem? (i := 11) rfl)
theorem dX8_init_89 : decode cX8_init 89 = .ok (.castore, 1) := budX8_init_8 (89, .ok (.castore, 1)) (List.mem_of_getElem? (i := 12) rfl)
theorem dX8_init_95 : decode cX8_init 95 = .ok (.castore, 1) := budX8_init_8 (95, .ok (.castore, 1)) (List.mem_of_getElem? (i := 13) rfl)
theorem dX8_init_101 : decode cX8_init 101 = .ok (.castore, 1) := budX8_init_8 (101, .ok (.castore, 1)) (List.mem_of_getElem? (i := 14) rfl)
theorem dX8_init_107 : decode cX8_init 107 = .ok (.castore, 1) := budX8_init_8 (107, .ok (.castore, 1)) (List.mem_of_getElem? (i := 15) rfl)
theorem dX8_init_113 : decode cX8_init 113 = .ok (.castore, 1) := budX8_init_8 (113, .ok (.castore, 1)) (List.mem_of_getElem? (i := 16) rfl)
theorem dX8_init_119 : decode cX8_init 119 = .ok (.castore, 1) := budX8_init_8 (119, .ok (.castore, 1)) (List.mem_of_getElem? (i := 17) rfl)
theorem dX8_init_125 : decode cX8_init 125 = .ok (.newarray .int, 2) := budX8_init_8 (125, .ok (.newarray .int, 2)) (List.mem_of_getElem? (i := 18) rfl)
theorem dX8_init_151 : decode cX8_init 151 = .ok (.newarray .int, 2) := budX8_init_8 (151, .ok (.newarray .int, 2)) (List.mem_of_getElem? (i := 19) rfl)
theorem dX8_init_159 : decode cX8_init 159 = .ok (.newarray .int, 2) := budX8_init_8 (159, .ok (.newarray .int, 2)) (List.mem_of_getElem? (i := 20) rfl)
theorem dX8_init_167 : decode cX8_init 167 = .ok (.newarray .boolean, 2) := budX8_init_8 (167, .ok (.newarray .boolean, 2)) (List.mem_of_getElem? (i := 21) rfl)
theorem dX8_init_175 : decode cX8_init 175 = .ok (.newarray .int, 2) := budX8_init_8 (175, .ok (.newarray .int, 2)) (List.mem_of_getElem? (i := 22) rfl)
theorem dX8_init_182 : decode cX8_init 182 = .ok (.newarray .int, 2) := budX8_init_8 (182, .ok (.newarray .int, 2)) (List.mem_of_getElem? (i := 23) rfl)
theorem dX8_init_189 : decode cX8_init 189 = .ok (.newarray .int, 2) := budX8_init_8 (189, .ok (.newarray .int, 2)) (List.mem_of_getElem? (i := 24) rfl)
theorem dX8_init_212 : decode cX8_init 212 = .ok (.newarray .int, 2) := budX8_init_8 (212, .ok (.newarray .int, 2)) (List.mem_of_getElem? (i := 25) rfl)
theorem dX8_init_220 : decode cX8_init 220 = .ok (.newarray .int, 2) := budX8_init_8 (220, .ok (.newarray .int, 2)) (List.mem_of_getElem? (i := 26) rfl)
theorem dX8_init_227 : decode cX8_init 227 = .ok (.newarray .int, 2) := budX8_init_8 (227, .ok (.newarray .int, 2)) (List.mem_of_getElem? (i := 27) rfl)
theorem dX8_init_234 : decode cX8_init 234 = .ok (.newarray .int, 2) := budX8_init_8 (234, .ok (.newarray .int, 2)) (List.mem_of_getElem? (i := 28) rfl)
theorem dX8_init_241 : decode cX8_init 241 = .ok (.newarray .int, 2) := budX8_init_8 (241, .ok (.newarray .int, 2)) (List.mem_of_getElem? (i := 29) rfl)
theorem dX8_init_249 : decode cX8_init 249 = .ok (.newarray .int, 2) := budX8_init_8 (249, .ok (.newarray .int, 2)) (List.mem_of_getElem? (i := 30) rfl)
theorem dX8_init_257 : decode cX8_init 257 = .ok (.newarray .int, 2) := budX8_init_8 (257, .ok (.newarray .int, 2)) (List.mem_of_getElem? (i := 31) rfl)
theorem dX8_init_265 : decode cX8_init 265 = .ok (.newarray .int, 2) := budX8_init_8 (265, .ok (.newarray .int, 2)) (List.mem_of_getElem? (i := 32) rfl)
def wpX8_init (N : Nat) (ln : Nat → Nat) (S : HC) (a0 : Nat) (post : Nat → (Nat → Nat) → HC → Prop) : Prop := na_ N 9 (1461 : Int32) 1461 ln S fun N1 ln S => lt_ (sR S a0 0 (some N)) fun S => na_ N1 9 (1461 : Int32) 1461 ln S fun N2 ln S => lt_ (sR S a0 1 (some N1)) fun S => na_ N2 9 (1461 : Int32) 1461 ln S fun N3 ln S => lt_ (sR S a0 2 (some N2)) fun S => na_ N3 9 (112 : Int32) 112 ln S fun N4 ln S => lt_ (sR S a0 4 (some N3)) fun S => na_ N4 9 (89 : Int32) 89 ln S fun N5 ln S => lt_ (sR S a0 5 (some N4)) fun S => na_ N5 9 (96 : Int32) 96 ln S fun N6 ln S => lt_ (sR S a0 6 (some N5)) fun S => na_ N6 12 (11 : Int32) 11 ln S fun N7 ln S => as_ (ln N6) (0 : Int32) (fun j => sI S N6 j (vp_nar .char (106 : Int32))) fun S => as_ (ln N6) (1 : Int32) (fun j => sI S N6 j (vp_nar .char (111 : Int32))) fun S => as_ (ln N6) (2 : Int32) (fun j => sI S N6 j (vp_nar .char (105 : Int32))) fun S => as_ (ln N6) (3 : Int32) (fun j => sI S N6 j (vp_nar .char (110 : Int32))) fun S => as_ (ln N6) (4 : Int32) (fun j => sI S N6 j (vp_nar .char (102 : Int32))) fun S => as_ (ln N6) (5 : Int32) (fun j => sI S N6 j (vp_nar .char (101 : Int32))) fun S => as_ (ln N6) (6 : Int32) (fun j => sI S N6 j (vp_nar .char (101 : Int32))) fun S => as_ (ln N6) (7 : Int32) (fun j => sI S N6 j (vp_nar .char (102 : Int32))) fun S => as_ (ln N6) (8 : Int32) (fun j => sI S N6 j (vp_nar .char (105 : Int32))) fun S => as_ (ln N6) (9 : Int32) (fun j => sI S N6 j (vp_nar .char (110 : Int32))) fun S => as_ (ln N6) (10 : Int32) (fun j => sI S N6 j (vp_nar .char (101 : Int32))) fun S => lt_ (sR S a0 14 (some N6)) fun S => na_ N7 9 (4 : Int32) 4 ln S fun N8 ln S => as_ (ln N7) (0 : Int32) (fun j => sI S N7 j (0 : Int32)) fun S => as_ (ln N7) (1 : Int32) (fun j => sI S N7 j (4 : Int32)) fun S => as_ (ln N7) (2 : Int32) (fun j => sI S N7 j (7 : Int32)) fun S => as_ (ln N7) (3 : Int32) (fun j => sI S N7 j (11 : Int32)) fun S => lt_ (sR S a0 15 (some N7)) fun S => na_ N8 9 (96 : Int32) 96 ln S fun N9 ln S => lt_ (sR S a0 16 (some N8)) fun S => na_ N9 9 (96 : Int32) 96 ln S fun N10 ln S => lt_ (sR S a0 19 (some N9)) fun S => na_ N10 11 (10 : Int32) 10 ln S fun N11 ln S => lt_ (sR S a0 21 (some N10)) fun S => na_ N11 9 (96 : Int32) 96 ln S fun N12 ln S => lt_ (sR S a0 22 (some N11)) fun S => na_ N12 9 (4 : Int32) 4 ln S fun N13 ln S => lt_ (sR S a0 23 (some N12)) fun S => na_ N13 9 (4 : Int32) 4 ln S fun N14 ln S => as_ (ln N13) (0 : Int32) (fun j => sI S N13 j (-1 : Int32)) fun S => as_ (ln N13) (1 : Int32) (fun j => sI S N13 j (-1 : Int32)) fun S => as_ (ln N13) (2 : Int32) (fun j => sI S N13 j (-1 : Int32)) fun S => as_ (ln N13) (3 : Int32) (fun j => sI S N13 j (-1 : Int32)) fun S => lt_ (sR S a0 24 (some N13)) fun S => na_ N14 9 (4 : Int32) 4 ln S fun N15 ln S => lt_ (sR S a0 25 (some N14)) fun S => na_ N15 9 (96 : Int32) 96 ln S fun N16 ln S => lt_ (sR S a0 26 (some N15)) fun S => na_ N16 9 (5 : Int32) 5 ln S fun N17 ln S => lt_ (sR S a0 27 (some N16)) fun S => na_ N17 9 (5 : Int32) 5 ln S fun N18 ln S => lt_ (sR S a0 28 (some N17)) fun S => na_ N18 9 (5 : Int32) 5 ln S fun N19 ln S => lt_ (sR S a0 29 (some N18)) fun S => na_ N19 9 (120 : Int32) 120 ln S fun N20 ln S => lt_ (sR S a0 30 (some N19)) fun S => na_ N20 9 (24 : Int32) 24 ln S fun N21 ln S => lt_ (sR S a0 31 (some N20)) fun S => na_ N21 9 (60 : Int32) 60 ln S fun N22 ln S => lt_ (sR S a0 32 (some N21)) fun S => dn_ (hR S a0 0) fun b23 => as_ (ln b23) (0 : Int32) (fun j => sI S b23 j (1 : Int32)) fun S => dn_ (hR S a0 0) fun b24 => as_ (ln b24) (3 : Int32) (fun j => sI S b24 j (30 : Int32)) fun S => post N22 ln S
abbrev rmX8_init : Room := { frames := 1, cells := 22, slots := 5320, locals := 20 }
set_option maxHeartbeats 4000000 in
set_option maxRecDepth 100000 in
theorem ctX8_init {l : Launch} {g : GX} {N : Nat} {ln : Nat → Nat} {S : HC} {a0 : Nat} {post : Nat → (Nat → Nat) → HC → Prop} (hr_a0 : a0 < N) (hk_a0 : kd a0 = 8) (h : wpX8_init N ln S a0 post) : Met l yX8_init (Cond.code yX8_init prog_10_method_1_code 1 (Option.none : Option Jvm.ClassFile.FieldType) :: gtbl) rmX8_init (va_Pc [.ref (gz g + a0)] (AtP g N ln S)) (QXV g N post) 22 5320 (gF g) := by
  refine m_of (by decide) (Nat.le_of_ble_eq_true rfl) ?_
  intro p e s m below meth c ls F hr I hl
  have hl : lv_has ls 1 [(0, .ref (gz g + a0))] := hl
  unfold wpX8_init at h
  have hN := Nat.le_refl N
  refine lv_aload_n F.1 F.2.1 dX8_init_0 rfl (lv_at hl 0 rfl) ?_
  refine W.objInit F.1 F.2.1 F.2.2.2.1 (F.2.2.2.2 _ tw_936) (F.2.2.2.2 _ tw_83) (F.2.2.2.2 _ tw_84) rfl (by rw [F.2.2.1]; exact hl.1) rfl dX8_init_1 (Nat.le_of_ble_eq_true rfl) (Nat.le_of_ble_eq_true rfl) ?_
  refine W.eq (g2 := F0 m 4 ls []) rfl ?_
  refine lv_aload_n F.1 F.2.1 dX8_init_4 rfl (lv_at hl 0 rfl) ?_
  refine lv_sipush (v := 1461) F.1 F.2.1 dX8_init_5 (by decide) ?_
  refine r_newa (B := 1461) F I h tw_148 ⟨Nat.le_of_ble_eq_true rfl, Nat.le_of_ble_eq_true rfl⟩ (Nat.le_of_ble_eq_true rfl) dX8_init_8 (fun N1 ln S H hr_N hk_N I h => ?_)
  have hr_a0 := Nat.lt_of_lt_of_le hr_a0 (Nat.le_of_lt hr_N)
  have hN := Nat.le_trans hN (Nat.le_of_lt hr_N)
  refine r_putN F I hr_a0 hk_a0 fX8_9 (f := 9) rfl (by decide) (Or.inr ⟨hr.2.2, rfl⟩) hr_N hk_N (fun _ => ⟨⟨rfl, rfl⟩, rfl, rfl⟩) dX8_init_10 h (fun S H locs I h => ?_)
  refine lv_aload_n F.1 F.2.1 dX8_init_13 rfl (lv_at hl 0 rfl) ?_
  refine lv_sipush (v := 1461) F.1 F.2.1 dX8_init_14 (by decide) ?_
  refine r_newa (B := 1461) F I h tw_148 ⟨Nat.le_of_ble_eq_true rfl, Nat.le_of_ble_eq_true rfl⟩ (Nat.le_of_ble_eq_true rfl) dX8_init_17 (fun N2 ln S H hr_N1 hk_N1 I h => ?_)
  have hr_a0 := Nat.lt_of_lt_of_le hr_a0 (Nat.le_of_lt hr_N1)
  have hN := Nat.le_trans hN (Nat.le_of_lt hr_N1)
  refine r_putN F I hr_a0 hk_a0 fX8_13 (f := 9) rfl (by decide) (Or.inr ⟨hr.2.2, rfl⟩) hr_N1 hk_N1 (fun _ => ⟨⟨rfl, rfl⟩, rfl, rfl⟩) dX8_init_19 h (fun S H locs I h => ?_)
  refine lv_aload_n F.1 F.2.1 dX8_init_22 rfl (lv_at hl 0 rfl) ?_
  refine lv_sipush (v := 1461) F.1 F.2.1 dX8_init_23 (by decide) ?_
  refine r_newa (B := 1461) F I h tw_148 ⟨Nat.le_of_ble_eq_true rfl, Nat.le_of_ble_eq_true rfl⟩ (Nat.le_of_ble_eq_true rfl) dX8_init_26 (fun N3 ln S H hr_N2 hk_N2 I h => ?_)
  have hr_a0 := Nat.lt_of_lt_of_le hr_a0 (Nat.le_of_lt hr_N2)
  have hN := Nat.le_trans hN (Nat.le_of_lt hr_N2)
  refine r_putN F I hr_a0 hk_a0 fX8_16 (f := 9) rfl (by decide) (Or.inr ⟨hr.2.2, rfl⟩) hr_N2 hk_N2 (fun _ => ⟨⟨rfl, rfl⟩, rfl, rfl⟩) dX8_init_28 h (fun S H locs I h => ?_)
  refine lv_aload_n F.1 F.2.1 dX8_init_31 rfl (lv_at hl 0 rfl) ?_
  refine lv_bipush (v := 112) F.1 F.2.1 dX8_init_32 (by decide) ?_
  refine r_newa (B := 112) F I h tw_148 ⟨Nat.le_of_ble_eq_true rfl, Nat.le_of_ble_eq_true rfl⟩ (Nat.le_of_ble_eq_true rfl) dX8_init_34 (fun N4 ln S H hr_N3 hk_N3 I h => ?_)
  have hr_a0 := Nat.lt_of_lt_of_le hr_a0 (Nat.le_of_lt hr_N3)
  have hN := Nat.le_trans hN (Nat.le_of_lt hr_N3)
  refine r_putN F I hr_a0 hk_a0 fX8_19 (f := 9) rfl (by decide) (Or.inr ⟨hr.2.2, rfl⟩) hr_N3 hk_N3 (fun _ => ⟨⟨rfl, rfl⟩, rfl, rfl⟩) dX8_init_36 h (fun S H locs I h => ?_)
  refine lv_aload_n F.1 F.2.1 dX8_init_39 rfl (lv_at hl 0 rfl) ?_
  refine lv_bipush (v := 89) F.1 F.2.1 dX8_init_40 (by decide) ?_
  refine r_newa (B := 89) F I h tw_148 ⟨Nat.le_of_ble_eq_true rfl, Nat.le_of_ble_eq_true rfl⟩ (Nat.le_of_ble_eq_true rfl) dX8_init_42 (fun N5 ln S H hr_N4 hk_N4 I h => ?_)
  have hr_a0 := Nat.lt_of_lt_of_le hr_a0 (Nat.le_of_lt hr_N4)
  have hN := Nat.le_trans hN (Nat.le_of_lt hr_N4)
  refine r_putN F I hr_a0 hk_a0 fX8_22 (f := 9) rfl (by decide) (Or.inr ⟨hr.2.2, rfl⟩) hr_N4 hk_N4 (fun _ => ⟨⟨rfl, rfl⟩, rfl, rfl⟩) dX8_init_44 h (fun S H locs I h => ?_)
  refine lv_aload_n F.1 F.2.1 dX8_init_47 rfl (lv_at hl 0 rfl) ?_
  refine lv_bipush (v := 96) F.1 F.2.1 dX8_init_48 (by decide) ?_
  refine r_newa (B := 96) F I h tw_148 ⟨Nat.le_of_ble_eq_true rfl, Nat.le_of_ble_eq_true rfl⟩ (Nat.le_of_ble_eq_true rfl) dX8_init_50 (fun N6 ln S H hr_N5 hk_N5 I h => ?_)
  have hr_a0 := Nat.lt_of_lt_of_le hr_a0 (Nat.le_of_lt hr_N5)
  have hN := Nat.le_trans hN (Nat.le_of_lt hr_N5)
  refine r_putN F I hr_a0 hk_a0 fX8_25 (f := 9) rfl (by decide) (Or.inr ⟨hr.2.2, rfl⟩) hr_N5 hk_N5 (fun _ => ⟨⟨rfl, rfl⟩, rfl, rfl⟩) dX8_init_52 h (fun S H locs I h => ?_)
  refine lv_aload_n F.1 F.2.1 dX8_init_55 rfl (lv_at hl 0 rfl) ?_
  refine lv_bipush (v := 11) F.1 F.2.1 dX8_init_56 (by decide) ?_
  refine r_newaC (B := 11) F I h tw_1040 ⟨Nat.le_of_ble_eq_true rfl, Nat.le_of_ble_eq_true rfl⟩ (Nat.le_of_ble_eq_true rfl) dX8_init_58 (fun N7 ln S H hr_N6 hk_N6 I h => ?_)
  have hr_a0 := Nat.lt_of_lt_of_le hr_a0 (Nat.le_of_lt hr_N6)
  have hN := Nat.le_trans hN (Nat.le_of_lt hr_N6)
  refine lv_dup F.1 F.2.1 dX8_init_60 rfl ?_
  refine lv_iconst (v := 0) F.1 F.2.1 dX8_init_61 (by decide) ?_
  refine lv_bipush (v := 106) F.1 F.2.1 dX8_init_62 (by decide) ?_
  refine r_cast F I hr_N6 hk_N6 dX8_init_64 h (fun S H locs I h => ?_)
  refine lv_dup F.1 F.2.1 dX8_init_65 rfl ?_
  refine lv_iconst (v := 1) F.1 F.2.1 dX8_init_66 (by decide) ?_
  refine lv_bipush (v := 111) F.1 F.2.1 dX8_init_67 (by decide) ?_
  refine r_cast F I hr_N6 hk_N6 dX8_init_69 h (fun S H locs I h => ?_)
  refine lv_dup F.1 F.2.1 dX8_init_70 rfl ?_
  refine lv_iconst (v := 2) F.1 F.2.1 dX8_init_71 (by decide) ?_
  refine lv_bipush (v := 105) F.1 F.2.1 dX8_init_72 (by decide) ?_
  refine r_cast F I hr_N6 hk_N6 dX8_init_74 h (fun S H locs I h => ?_)
  refine lv_dup F.1 F.2.1 dX8_init_75 rfl ?_
  refine lv_iconst (v := 3) F.1 F.2.1 dX8_init_76 (by decide) ?_
  refine lv_bipush (v := 110) F.1 F.2.1 dX8_init_77 (by decide) ?_
  refine r_cast F I hr_N6 hk_N6 dX8_init_79 h (fun S H locs I h => ?_)
  refine lv_dup F.1 F.2.1 dX8_init_80 rfl ?_
  refine lv_iconst (v := 4) F.1 F.2.1 dX8_init_81 (by decide) ?_
  refine lv_bipush (v := 102) F.1 F.2.1 dX8_init_82 (by decide) ?_
  refine r_cast F I hr_N6 hk_N6 dX8_init_84 h (fun S H locs I h => ?_)
  refine lv_dup F.1 F.2.1 dX8_init_85 rfl ?_
  refine lv_iconst (v := 5) F.1 F.2.1 dX8_init_86 (by decide) ?_
  refine lv_bipush (v := 101) F.1 F.2.1 dX8_init_87 (by decide) ?_
  refine r_cast F I hr_N6 hk_N6 dX8_init_89 h (fun S H locs I h => ?_)
  refine lv_dup F.1 F.2.1 dX8_init_90 rfl ?_
  refine lv_bipush (v := 6) F.1 F.2.1 dX8_init_91 (by decide) ?_
  refine lv_bipush (v := 101) F.1 F.2.1 dX8_init_93 (by decide) ?_
  refine r_cast F I hr_N6 hk_N6 dX8_init_95 h (fun S H locs I h => ?_)
  refine lv_dup F.1 F.2.1 dX8_init_96 rfl ?_
  refine lv_bipush (v := 7) F.1 F.2.1 dX8_init_97 (by decide) ?_
  refine lv_bipush (v := 102) F.1 F.2.1 dX8_init_99 (by decide) ?_
  refine r_cast F I hr_N6 hk_N6 dX8_init_101 h (fun S H locs I h => ?_)
  refine lv_dup F.1 F.2.1 dX8_init_102 rfl ?_
  refine lv_bipush (v := 8) F.1 F.2.1 dX8_init_103 (by decide) ?_
  refine lv_bipush (v := 105) F.1 F.2.1 dX8_init_105 (by decide) ?_
  refine r_cast F I hr_N6 hk_N6 dX8_init_107 h (fun S H locs I h => ?_)
  refine lv_dup F.1 F.2.1 dX8_init_108 rfl ?_
  refine lv_bipush (v := 9) F.1 F.2.1 dX8_init_109 (by decide) ?_
  refine lv_bipush (v := 110) F.1 F.2.1 dX8_init_111 (by decide) ?_
  refine r_cast F I hr_N6 hk_N6 dX8_init_113 h (fun S H locs I h => ?_)
  refine lv_dup F.1 F.2.1 dX8_init_114 rfl ?_
  refine lv_bipush (v := 10) F.1 F.2.1 dX8_init_115 (by decide) ?_
  refine lv_bipush (v := 101) F.1 F.2.1 dX8_init_117 (by decide) ?_
  refine r_cast F I hr_N6 hk_N6 dX8_init_119 h (fun S H locs I h => ?_)
  refine r_putN F I hr_a0 hk_a0 fX8_28 (f := 12) rfl (by decide) (Or.inr ⟨hr.2.2, rfl⟩) hr_N6 hk_N6 (fun _ => ⟨⟨rfl, rfl⟩, rfl, rfl⟩) dX8_init_120 h (fun S H locs I h => ?_)
  refine lv_aload_n F.1 F.2.1 dX8_init_123 rfl (lv_at hl 0 rfl) ?_
  refine lv_iconst (v := 4) F.1 F.2.1 dX8_init_124 (by decide) ?_
  refine r_newa (B := 4) F I h tw_148 ⟨Nat.le_of_ble_eq_true rfl, Nat.le_of_ble_eq_true rfl⟩ (Nat.le_of_ble_eq_true rfl) dX8_init_125 (fun N8 ln S H hr_N7 hk_N7 I h => ?_)
  have hr_a0 := Nat.lt_of_lt_of_le hr_a0 (Nat.le_of_lt hr_N7)
  have hN := Nat.le_trans hN (Nat.le_of_lt hr_N7)
  refine lv_dup F.1 F.2.1 dX8_init_127 rfl ?_
  refine lv_iconst (v := 0) F.1 F.2.1 dX8_init_128 (by decide) ?_
  refine lv_iconst (v := 0) F.1 F.2.1 dX8_init_129 (by decide) ?_
  refine r_ast F I hr_N7 hk_N7 dX8_init_130 h (fun S H locs I h => ?_)
  refine lv_dup F.1 F.2.1 dX8_init_131 rfl ?_
  refine lv_iconst (v := 1) F.1 F.2.1 dX8_init_132 (by decide) ?_
  refine lv_iconst (v := 4) F.1 F.2.1 dX8_init_133 (by decide) ?_
  refine r_ast F I hr_N7 hk_N7 dX8_init_134 h (fun S H locs I h => ?_)
  refine lv_dup F.1 F.2.1 dX8_init_135 rfl ?_
  refine lv_iconst (v := 2) F.1 F.2.1 dX8_init_136 (by decide) ?_
  refine lv_bipush (v := 7) F.1 F.2.1 dX8_init_137 (by decide) ?_
  refine r_ast F I hr_N7 hk_N7 dX8_init_139 h (fun S H locs I h => ?_)
  refine lv_dup F.1 F.2.1 dX8_init_140 rfl ?_
  refine lv_iconst (v := 3) F.1 F.2.1 dX8_init_141 (by decide) ?_
  refine lv_bipush (v := 11) F.1 F.2.1 dX8_init_142 (by decide) ?_
  refine r_ast F I hr_N7 hk_N7 dX8_init_144 h (fun S H locs I h => ?_)
  refine r_putN F I hr_a0 hk_a0 fX8_32 (f := 9) rfl (by decide) (Or.inr ⟨hr.2.2, rfl⟩) hr_N7 hk_N7 (fun _ => ⟨⟨rfl, rfl⟩, rfl, rfl⟩) dX8_init_145 h (fun S H locs I h => ?_)
  refine lv_aload_n F.1 F.2.1 dX8_init_148 rfl (lv_at hl 0 rfl) ?_
  refine lv_bipush (v := 96) F.1 F.2.1 dX8_init_149 (by decide) ?_
  refine r_newa (B := 96) F I h tw_148 ⟨Nat.le_of_ble_eq_true rfl, Nat.le_of_ble_eq_true rfl⟩ (Nat.le_of_ble_eq_true rfl) dX8_init_151 (fun N9 ln S H hr_N8 hk_N8 I h => ?_)
  have hr_a0 := Nat.lt_of_lt_of_le hr_a0 (Nat.le_of_lt hr_N8)
  have hN := Nat.le_trans hN (Nat.le_of_lt hr_N8)
  refine r_putN F I hr_a0 hk_a0 fX8_35 (f := 9) rfl (by decide) (Or.inr ⟨hr.2.2, rfl⟩) hr_N8 hk_N8 (fun _ => ⟨⟨rfl, rfl⟩, rfl, rfl⟩) dX8_init_153 h (fun S H locs I h => ?_)
  refine lv_aload_n F.1 F.2.1 dX8_init_156 rfl (lv_at hl 0 rfl) ?_
  refine lv_bipush (v := 96) F.1 F.2.1 dX8_init_157 (by decide) ?_
  refine r_newa (B := 96) F I h tw_148 ⟨Nat.le_of_ble_eq_true rfl, Nat.le_of_ble_eq_true rfl⟩ (Nat.le_of_ble_eq_true rfl) dX8_init_159 (fun N10 ln S H hr_N9 hk_N9 I h => ?_)
  have hr_a0 := Nat.lt_of_lt_of_le hr_a0 (Nat.le_of_lt hr_N9)
  have hN := Nat.le_trans hN (Nat.le_of_lt hr_N9)
  refine r_putN F I hr_a0 hk_a0 fX8_38 (f := 9) rfl (by decide) (Or.inr ⟨hr.2.2, rfl⟩) hr_N9 hk_N9 (fun _ => ⟨⟨rfl, rfl⟩, rfl, rfl⟩) dX8_init_161 h (fun S H locs I h => ?_)
  refine lv_aload_n F.1 F.2.1 dX8_init_164 rfl (lv_at hl 0 rfl) ?_
  refine lv_bipush (v := 10) F.1 F.2.1 dX8_init_165 (by decide) ?_
  refine r_newaZ (B := 10) F I h tw_1041 ⟨Nat.le_of_ble_eq_true rfl, Nat.le_of_ble_eq_true rfl⟩ (Nat.le_of_ble_eq_true rfl) dX8_init_167 (fun N11 ln S H hr_N10 hk_N10 I h => ?_)
  have hr_a0 := Nat.lt_of_lt_of_le hr_a0 (Nat.le_of_lt hr_N10)
  have hN := Nat.le_trans hN (Nat.le_of_lt hr_N10)
  refine r_putN F I hr_a0 hk_a0 fX8_41 (f := 11) rfl (by decide) (Or.inr ⟨hr.2.2, rfl⟩) hr_N10 hk_N10 (fun _ => ⟨⟨rfl, rfl⟩, rfl, rfl⟩) dX8_init_169 h (fun S H locs I h => ?_)
  refine lv_aload_n F.1 F.2.1 dX8_init_172 rfl (lv_at hl 0 rfl) ?_
  refine lv_bipush (v := 96) F.1 F.2.1 dX8_init_173 (by decide) ?_
  refine r_newa (B := 96) F I h tw_148 ⟨Nat.le_of_ble_eq_true rfl, Nat.le_of_ble_eq_true rfl⟩ (Nat.le_of_ble_eq_true rfl) dX8_init_175 (fun N12 ln S H hr_N11 hk_N11 I h => ?_)
  have hr_a0 := Nat.lt_of_lt_of_le hr_a0 (Nat.le_of_lt hr_N11)
  have hN := Nat.le_trans hN (Nat.le_of_lt hr_N11)
  refine r_putN F I hr_a0 hk_a0 fX8_45 (f := 9) rfl (by decide) (Or.inr ⟨hr.2.2, rfl⟩) hr_N11 hk_N11 (fun _ => ⟨⟨rfl, rfl⟩, rfl, rfl⟩) dX8_init_177 h (fun S H locs I h => ?_)
  refine lv_aload_n F.1 F.2.1 dX8_init_180 rfl (lv_at hl 0 rfl) ?_
  refine lv_iconst (v := 4) F.1 F.2.1 dX8_init_181 (by decide) ?_
  refine r_newa (B := 4) F I h tw_148 ⟨Nat.le_of_ble_eq_true rfl, Nat.le_of_ble_eq_true rfl⟩ (Nat.le_of_ble_eq_true rfl) dX8_init_182 (fun N13 ln S H hr_N12 hk_N12 I h => ?_)
  have hr_a0 := Nat.lt_of_lt_of_le hr_a0 (Nat.le_of_lt hr_N12)
  have hN := Nat.le_trans hN (Nat.le_of_lt hr_N12)
  refine r_putN F I hr_a0 hk_a0 fX8_48 (f := 9) rfl (by decide) (Or.inr ⟨hr.2.2, rfl⟩) hr_N12 hk_N12 (fun _ => ⟨⟨rfl, rfl⟩, rfl, rfl⟩) dX8_init_184 h (fun S H locs I h => ?_)
  refine lv_aload_n F.1 F.2.1 dX8_init_187 rfl (lv_at hl 0 rfl) ?_
  refine lv_iconst (v := 4) F.1 F.2.1 dX8_init_188 (by decide) ?_
  refine r_newa (B := 4) F I h tw_148 ⟨Nat.le_of_ble_eq_true rfl, Nat.le_of_ble_eq_true rfl⟩ (Nat.le_of_ble_eq_true rfl) dX8_init_189 (fun N14 ln S H hr_N13 hk_N13 I h => ?_)
  have hr_a0 := Nat.lt_of_lt_of_le hr_a0 (Nat.le_of_lt hr_N13)
  have hN := Nat.le_trans hN (Nat.le_of_lt hr_N13)
  refine lv_dup F.1 F.2.1 dX8_init_191 rfl ?_
  refine lv_iconst (v := 0) F.1 F.2.1 dX8_init_192 (by decide) ?_
  refine lv_iconst (v := -1) F.1 F.2.1 dX8_init_193 (by decide) ?_
  refine r_ast F I hr_N13 hk_N13 dX8_init_194 h (fun S H locs I h => ?_)
  refine lv_dup F.1 F.2.1 dX8_init_195 rfl ?_
  refine lv_iconst (v := 1) F.1 F.2.1 dX8_init_196 (by decide) ?_
  refine lv_iconst (v := -1) F.1 F.2.1 dX8_init_197 (by decide) ?_
  refine r_ast F I hr_N13 hk_N13 dX8_init_198 h (fun S H locs I h => ?_)
  refine lv_dup F.1 F.2.1 dX8_init_199 rfl ?_
  refine lv_iconst (v := 2) F.1 F.2.1 dX8_init_200 (by decide) ?_
  refine lv_iconst (v := -1) F.1 F.2.1 dX8_init_201 (by decide) ?_
  refine r_ast F I hr_N13 hk_N13 dX8_init_202 h (fun S H locs I h => ?_)
  refine lv_dup F.1 F.2.1 dX8_init_203 rfl ?_
  refine lv_iconst (v := 3) F.1 F.2.1 dX8_init_204 (by decide) ?_
  refine lv_iconst (v := -1) F.1 F.2.1 dX8_init_205 (by decide) ?_
  refine r_ast F I hr_N13 hk_N13 dX8_init_206 h (fun S H locs I h => ?_)
  refine r_putN F I hr_a0 hk_a0 fX8_51 (f := 9) rfl (by decide) (Or.inr ⟨hr.2.2, rfl⟩) hr_N13 hk_N13 (fun _ => ⟨⟨rfl, rfl⟩, rfl, rfl⟩) dX8_init_207 h (fun S H locs I h => ?_)
  refine lv_aload_n F.1 F.2.1 dX8_init_210 rfl (lv_at hl 0 rfl) ?_
  refine lv_iconst (v := 4) F.1 F.2.1 dX8_init_211 (by decide) ?_
  refine r_newa (B := 4) F I h tw_148 ⟨Nat.le_of_ble_eq_true rfl, Nat.le_of_ble_eq_true rfl⟩ (Nat.le_of_ble_eq_true rfl) dX8_init_212 (fun N15 ln S H hr_N14 hk_N14 I h => ?_)
  have hr_a0 := Nat.lt_of_lt_of_le hr_a0 (Nat.le_of_lt hr_N14)
  have hN := Nat.le_trans hN (Nat.le_of_lt hr_N14)
  refine r_putN F I hr_a0 hk_a0 fX8_54 (f := 9) rfl (by decide) (Or.inr ⟨hr.2.2, rfl⟩) hr_N14 hk_N14 (fun _ => ⟨⟨rfl, rfl⟩, rfl, rfl⟩) dX8_init_214 h (fun S H locs I h => ?_)
  refine lv_aload_n F.1 F.2.1 dX8_init_217 rfl (lv_at hl 0 rfl) ?_
  refine lv_bipush (v := 96) F.1 F.2.1 dX8_init_218 (by decide) ?_
  refine r_newa (B := 96) F I h tw_148 ⟨Nat.le_of_ble_eq_true rfl, Nat.le_of_ble_eq_true rfl⟩ (Nat.le_of_ble_eq_true rfl) dX8_init_220 (fun N16 ln S H hr_N15 hk_N15 I h => ?_)
  have hr_a0 := Nat.lt_of_lt_of_le hr_a0 (Nat.le_of_lt hr_N15)
  have hN := Nat.le_trans hN (Nat.le_of_lt hr_N15)
  refine r_putN F I hr_a0 hk_a0 fX8_57 (f := 9) rfl (by decide) (Or.inr ⟨hr.2.2, rfl⟩) hr_N15 hk_N15 (fun _ => ⟨⟨rfl, rfl⟩, rfl, rfl⟩) dX8_init_222 h (fun S H locs I h => ?_)
  refine lv_aload_n F.1 F.2.1 dX8_init_225 rfl (lv_at hl 0 rfl) ?_
  refine lv_iconst (v := 5) F.1 F.2.1 dX8_init_226 (by decide) ?_
  refine r_newa (B := 5) F I h tw_148 ⟨Nat.le_of_ble_eq_true rfl, Nat.le_of_ble_eq_true rfl⟩ (Nat.le_of_ble_eq_true rfl) dX8_init_227 (fun N17 ln S H hr_N16 hk_N16 I h => ?_)
  have hr_a0 := Nat.lt_of_lt_of_le hr_a0 (Nat.le_of_lt hr_N16)
  have hN := Nat.le_trans hN (Nat.le_of_lt hr_N16)
  refine r_putN F I hr_a0 hk_a0 fX8_60 (f := 9) rfl (by decide) (Or.inr ⟨hr.2.2, rfl⟩) hr_N16 hk_N16 (fun _ => ⟨⟨rfl, rfl⟩, rfl, rfl⟩) dX8_init_229 h (fun S H locs I h => ?_)
  refine lv_aload_n F.1 F.2.1 dX8_init_232 rfl (lv_at hl 0 rfl) ?_
  refine lv_iconst (v := 5) F.1 F.2.1 dX8_init_233 (by decide) ?_
  refine r_newa (B := 5) F I h tw_148 ⟨Nat.le_of_ble_eq_true rfl, Nat.le_of_ble_eq_true rfl⟩ (Nat.le_of_ble_eq_true rfl) dX8_init_234 (fun N18 ln S H hr_N17 hk_N17 I h => ?_)
  have hr_a0 := Nat.lt_of_lt_of_le hr_a0 (Nat.le_of_lt hr_N17)
  have hN := Nat.le_trans hN (Nat.le_of_lt hr_N17)
  refine r_putN F I hr_a0 hk_a0 fX8_63 (f := 9) rfl (by decide) (Or.inr ⟨hr.2.2, rfl⟩) hr_N17 hk_N17 (fun _ => ⟨⟨rfl, rfl⟩, rfl, rfl⟩) dX8_init_236 h (fun S H locs I h => ?_)
  refine lv_aload_n F.1 F.2.1 dX8_init_239 rfl (lv_at hl 0 rfl) ?_
  refine lv_iconst (v := 5) F.1 F.2.1 dX8_init_240 (by decide) ?_
  refine r_newa (B := 5) F I h tw_148 ⟨Nat.le_of_ble_eq_true rfl, Nat.le_of_ble_eq_true rfl⟩ (Nat.le_of_ble_eq_true rfl) dX8_init_241 (fun N19 ln S H hr_N18 hk_N18 I h => ?_)
  have hr_a0 := Nat.lt_of_lt_of_le hr_a0 (Nat.le_of_lt hr_N18)
  have hN := Nat.le_trans hN (Nat.le_of_lt hr_N18)
  refine r_putN F I hr_a0 hk_a0 fX8_66 (f := 9) rfl (by decide) (Or.inr ⟨hr.2.2, rfl⟩) hr_N18 hk_N18 (fun _ => ⟨⟨rfl, rfl⟩, rfl, rfl⟩) dX8_init_243 h (fun S H locs I h => ?_)
  refine lv_aload_n F.1 F.2.1 dX8_init_246 rfl (lv_at hl 0 rfl) ?_
  refine lv_bipush (v := 120) F.1 F.2.1 dX8_init_247 (by decide) ?_
  refine r_newa (B := 120) F I h tw_148 ⟨Nat.le_of_ble_eq_true rfl, Nat.le_of_ble_eq_true rfl⟩ (Nat.le_of_ble_eq_true rfl) dX8_init_249 (fun N20 ln S H hr_N19 hk_N19 I h => ?_)
  have hr_a0 := Nat.lt_of_lt_of_le hr_a0 (Nat.le_of_lt hr_N19)
  have hN := Nat.le_trans hN (Nat.le_of_lt hr_N19)
  refine r_putN F I hr_a0 hk_a0 fX8_69 (f := 9) rfl (by decide) (Or.inr ⟨hr.2.2, rfl⟩) hr_N19 hk_N19 (fun _ => ⟨⟨rfl, rfl⟩, rfl, rfl⟩) dX8_init_251 h (fun S H locs I h => ?_)
  refine lv_aload_n F.1 F.2.1 dX8_init_254 rfl (lv_at hl 0 rfl) ?_
  refine lv_bipush (v := 24) F.1 F.2.1 dX8_init_255 (by decide) ?_
  refine r_newa (B := 24) F I h tw_148 ⟨Nat.le_of_ble_eq_true rfl, Nat.le_of_ble_eq_true rfl⟩ (Nat.le_of_ble_eq_true rfl) dX8_init_257 (fun N21 ln S H hr_N20 hk_N20 I h => ?_)
  have hr_a0 := Nat.lt_of_lt_of_le hr_a0 (Nat.le_of_lt hr_N20)
  have hN := Nat.le_trans hN (Nat.le_of_lt hr_N20)
  refine r_putN F I hr_a0 hk_a0 fX8_72 (f := 9) rfl (by decide) (Or.inr ⟨hr.2.2, rfl⟩) hr_N20 hk_N20 (fun _ => ⟨⟨rfl, rfl⟩, rfl, rfl⟩) dX8_init_259 h (fun S H locs I h => ?_)
  refine lv_aload_n F.1 F.2.1 dX8_init_262 rfl (lv_at hl 0 rfl) ?_
  refine lv_bipush (v := 60) F.1 F.2.1 dX8_init_263 (by decide) ?_
  refine r_newa (B := 60) F I h tw_148 ⟨Nat.le_of_ble_eq_true rfl, Nat.le_of_ble_eq_true rfl⟩ (Nat.le_of_ble_eq_true rfl) dX8_init_265 (fun N22 ln S H hr_N21 hk_N21 I h => ?_)
  have hr_a0 := Nat.lt_of_lt_of_le hr_a0 (Nat.le_of_lt hr_N21)
  have hN := Nat.le_trans hN (Nat.le_of_lt hr_N21)
  refine r_putN F I hr_a0 hk_a0 fX8_75 (f := 9) rfl (by decide) (Or.inr ⟨hr.2.2, rfl⟩) hr_N21 hk_N21 (fun _ => ⟨⟨rfl, rfl⟩, rfl, rfl⟩) dX8_init_267 h (fun S H locs I h => ?_)
  refine lv_aload_n F.1 F.2.1 dX8_init_270 rfl (lv_at hl 0 rfl) ?_
  refine r_getN F I hr_a0 hk_a0 fX8_9 (f := 9) rfl (by decide) dX8_init_271 h (fun b23 hr_b23 hk_b23 h => ?_)
  refine lv_iconst (v := 0) F.1 F.2.1 dX8_init_274 (by decide) ?_
  refine lv_iconst (v := 1) F.1 F.2.1 dX8_init_275 (by decide) ?_
  refine r_ast F I hr_b23 hk_b23 dX8_init_276 h (fun S H locs I h => ?_)
  refine lv_aload_n F.1 F.2.1 dX8_init_277 rfl (lv_at hl 0 rfl) ?_
  refine r_getN F I hr_a0 hk_a0 fX8_9 (f := 9) rfl (by decide) dX8_init_278 h (fun b24 hr_b24 hk_b24 h => ?_)
  refine lv_iconst (v := 3) F.1 F.2.1 dX8_init_281 (by decide) ?_
  refine lv_bipush (v := 30) F.1 F.2.1 dX8_init_282 (by decide) ?_
  refine r_ast F I hr_b24 hk_b24 dX8_init_284 h (fun S H locs I h => ?_)
  refine W.widen (k := 22) (n := 5320) (Nat.le_of_ble_eq_true rfl) (Nat.le_of_ble_eq_true rfl) ?_
  exact r_vreturnX F I ⟨hr.1, hr.2.1, trivial⟩ hN h dX8_init_285
theorem bdX7_init_0 : ∀ q ∈ ([(0, .aload_n 0, 1), (1, .invokespecial 1, 3), (4, .aload_n 0, 1), (8, .dup, 1), (9, .invokespecial 9, 3), (12, .putfield 10, 3), (15, .aload_n 0, 1), (19, .dup, 1), (20, .invokespecial 9, 3), (23, .putfield 16, 3), (26, .aload_n 0, 1), (27, .iconst 0, 1), (28, .putfield 19, 3), (31, .aload_n 0, 1), (35, .dup, 1), (36, .invokespecial 9, 3), (39, .putfield 23, 3), (42, .aload_n 0, 1), (46, .dup, 1), (47, .invokespecial 28, 3), (50, .putfield 29, 3), (53, .aload_n 0, 1), (57, .dup, 1), (58, .invokespecial 35, 3), (61, .putfield 36, 3), (64, .aload_n 0, 1), (65, .iconst 4, 1), (69, .putfield 42, 3), (72, .aload_n 0, 1), (73, .iconst 5, 1), (77, .putfield 48, 3), (80, .aload_n 0, 1), (81, .bipush 60, 2), (85, .putfield 52, 3), (88, .aload_n 0, 1), (89, .iconst 0, 1), (90, .putfield 56, 3), (93, .aload_n 0, 1), (94, .bipush 96, 2), (98, .putfield 60, 3)] : List (Nat × Jvm.ClassFile.Instr × Nat)), decode cX7_init q.1 = .ok q.2 := chk_ok _ 0 _ rfl (by decide +kernel)
theorem dX7_init_0 : decode cX7_init 0 = .ok (.aload_n 0, 1) := bdX7_init_0 (0, .aload_n 0, 1) (List.mem_of_getElem? (i := 0) rfl)
theorem dX7_init_1 : decode cX7_init 1 = .ok (.invokespecial 1, 3) := bdX7_init_0 (1, .invokespecial 1, 3) (List.mem_of_getElem? (i := 1) rfl)
theorem dX7_init_4 : decode cX7_init 4 = .ok (.aload_n 0, 1) := bdX7_init_0 (4, .aload_n 0, 1) (List.mem_of_getElem? (i := 2) rfl)
theorem dX7_init_8 : decode cX7_init 8 = .ok (.dup, 1) := bdX7_init_0 (8, .dup, 1) (List.mem_of_getElem? (i := 3) rfl)
theorem dX7_init_9 : decode cX7_init 9 = .ok (.invokespecial 9, 3) := bdX7_init_0 (9, .invokespecial 9, 3) (List.mem_of_getElem? (i := 4) rfl)
theorem dX7_init_12 : decode cX7_init 12 = .ok (.putfield 10, 3) := bdX7_init_0 (12, .putfield 10, 3) (List.mem_of_getElem? (i := 5) rfl)
theorem dX7_init_15 : decode cX7_init 15 = .ok (.aload_n 0, 1) := bdX7_init_0 (15, .aload_n 0, 1) (List.mem_of_getElem? (i := 6) rfl)
theorem dX7_init_19 : decode cX7_init 19 = .ok (.dup, 1) := bdX7_init_0 (19, .dup, 1) (List.mem_of_getElem? (i := 7) rfl)
theorem dX7_init_20 : decode cX7_init 20 = .ok (.invokespecial 9, 3) := bdX7_init_0 (20, .invokespecial 9, 3) (List.mem_of_getElem? (i := 8) rfl)
theorem dX7_init_23 : decode cX7_init 23 = .ok (.putfield 16, 3) := bdX7_init_0 (23, .putfield 16, 3) (List.mem_of_getElem? (i := 9) rfl)
theorem dX7_init_26 : decode cX7_init 26 = .ok (.aload_n 0, 1) := bdX7_init_0 (26, .aload_n 0, 1) (List.mem_of_getElem? (i := 10) rfl)
theorem dX7_init_27 : decode cX7_init 27 = .ok (.iconst 0, 1) := bdX7_init_0 (27, .iconst 0, 1) (List.mem_of_getElem? (i := 11) rfl)
theorem dX7_init_28 : decode cX7_init 28 = .ok (.putfield 19, 3) := bdX7_init_0 (28, .putfield 19, 3) (List.mem_of_getElem? (i := 12) rfl)
theorem dX7_init_31 : decode cX7_init 31 = .ok (.aload_n 0, 1) := bdX7_init_0 (31, .aload_n 0, 1) (List.mem_of_getElem? (i := 13) rfl)
theorem dX7_init_35 : decode cX7_init 35 = .ok (.dup, 1) := bdX7_init_0 (35, .dup, 1) (List.mem_of_getElem? (i := 14) rfl)
theorem dX7_init_36 : decode cX7_init 36 = .ok (.invokespecial 9, 3) := bdX7_init_0 (36, .invokespecial 9, 3) (List.mem_of_getElem? (i := 15) rfl)
theorem dX7_init_39 : decode cX7_init 39 = .ok (.putfield 23, 3) := bdX7_init_0 (39, .putfield 23, 3) (List.mem_of_getElem? (i := 16) rfl)
theorem dX7_init_42 : decode cX7_init 42 = .ok (.aload_n 0, 1) := bdX7_init_0 (42, .aload_n 0, 1) (List.mem_of_getElem? (i := 17) rfl)
theorem dX7_init_46 : decode cX7_init 46 = .ok (.dup, 1) := bdX7_init_0 (46, .dup, 1) (List.mem_of_getElem? (i := 18) rfl)
theorem dX7_init_47 : decode cX7_init 47 = .ok (.invokespecial 28, 3) := bdX7_init_0 (47, .invokespecial 28, 3) (List.mem_of_getElem? (i := 19) rfl)
theorem dX7_init_50 : decode cX7_init 50 = .ok (.putfield 29, 3) := bdX7_init_0 (50, .putfield 29, 3) (List.mem_of_getElem? (i := 20) rfl)
theorem dX7_init_53 : decode cX7_init 53 = .ok (.aload_n 0, 1) := bdX7_init_0 (53, .aload_n 0, 1) (List.mem_of_getElem? (i := 21) rfl)
theorem dX7_init_57 : decode cX7_init 57 = .ok (.dup, 1) := bdX7_init_0 (57, .dup, 1) (List.mem_of_getElem? (i := 22) rfl)
theorem dX7_init_58 : decode cX7_init 58 = .ok (.invokespecial 35, 3) := bdX7_init_0 (58, .invokespecial 35, 3) (List.mem_of_getElem? (i := 23) rfl)
theorem dX7_init_61 : decode cX7_init 61 = .ok (.putfield 36, 3) := bdX7_init_0 (61, .putfield 36, 3) (List.mem_of_getElem? (i := 24) rfl)
theorem dX7_init_64 : decode cX7_init 64 = .ok (.aload_n 0, 1) := bdX7_init_0 (64, .aload_n 0, 1) (List.mem_of_getElem? (i := 25) rfl)
theorem dX7_init_65 : decode cX7_init 65 = .ok (.iconst 4, 1) := bdX7_init_0 (65, .iconst 4, 1) (List.mem_of_getElem? (i := 26) rfl)
theorem dX7_init_69 : decode cX7_init 69 = .ok (.putfield 42, 3) := bdX7_init_0 (69, .putfield 42, 3) (List.mem_of_getElem? (i := 27) rfl)
theorem dX7_init_72 : decode cX7_init 72 = .ok (.aload_n 0, 1) := bdX7_init_0 (72, .aload_n 0, 1) (List.mem_of_getElem? (i := 28) rfl)
theorem dX7_init_73 : decode cX7_init 73 = .ok (.iconst 5, 1) := bdX7_init_0 (73, .iconst 5, 1) (List.mem_of_getElem? (i := 29) rfl)
theorem dX7_init_77 : decode cX7_init 77 = .ok (.putfield 48, 3) := bdX7_init_0 (77, .putfield 48, 3) (List.mem_of_getElem? (i := 30) rfl)
theorem dX7_init_80 : decode cX7_init 80 = .ok (.aload_n 0, 1) := bdX7_init_0 (80, .aload_n 0, 1) (List.mem_of_getElem? (i := 31) rfl)
theorem dX7_init_81 : decode cX7_init 81 = .ok (.bipush 60, 2) := bdX7_init_0 (81, .bipush 60, 2) (List.mem_of_getElem? (i := 32) rfl)
theorem dX7_init_85 : decode cX7_init 85 = .ok (.putfield 52, 3) := bdX7_init_0 (85, .putfield 52, 3) (List.mem_of_getElem? (i := 33) rfl)
theorem dX7_init_88 : decode cX7_init 88 = .ok (.aload_n 0, 1) := bdX7_init_0 (88, .aload_n 0, 1) (List.mem_of_getElem? (i := 34) rfl)
theorem dX7_init_89 : decode cX7_init 89 = .ok (.iconst 0, 1) := bdX7_init_0 (89, .iconst 0, 1) (List.mem_of_getElem? (i := 35) rfl)
theorem dX7_init_90 : decode cX7_init 90 = .ok (.putfield 56, 3) := bdX7_init_0 (90, .putfield 56, 3) (List.mem_of_getElem? (i := 36) rfl)
theorem dX7_init_93 : decode cX7_init 93 = .ok (.aload_n 0, 1) := bdX7_init_0 (93, .aload_n 0, 1) (List.mem_of_getElem? (i := 37) rfl)
theorem dX7_init_94 : decode cX7_init 94 = .ok (.bipush 96, 2) := bdX7_init_0 (94, .bipush 96, 2) (List.mem_of_getElem? (i := 38) rfl)
theorem dX7_init_98 : decode cX7_init 98 = .ok (.putfield 60, 3) := bdX7_init_0 (98, .putfield 60, 3) (List.mem_of_getElem? (i := 39) rfl)
theorem bdX7_init_101 : ∀ q ∈ ([(101, .iconst 0, 1), (102, .istore_n 1, 1), (103, .iload_n 1, 1), (104, .iconst 4, 1), (105, .if_icmp .ge 22, 3), (108, .aload_n 0, 1), (109, .getfield 42, 3), (112, .iload_n 1, 1), (116, .dup, 1), (117, .invokespecial 63, 3), (121, .iinc 1 1, 3), (124, .goto (-21), 3), (127, .iconst 0, 1), (128, .istore_n 1, 1), (129, .iload_n 1, 1), (130, .iconst 5, 1), (131, .if_icmp .ge 22, 3), (134, .aload_n 0, 1), (135, .getfield 48, 3), (138, .iload_n 1, 1), (142, .dup, 1), (143, .invokespecial 64, 3), (147, .iinc 1 1, 3), (150, .goto (-21), 3), (153, .return_, 1)] : List (Nat × Jvm.ClassFile.Instr × Nat)), decode cX7_init q.1 = .ok q.2 := chk_ok _ 101 _ rfl (by decide +kernel)
theorem dX7_init_101 : decode cX7_init 101 = .ok (.iconst 0, 1) := bdX7_init_101 (101, .iconst 0, 1) (List.mem_of_getElem? (i := 0) rfl)
theorem dX7_init_102 : decode cX7_init 102 = .ok (.istore_n 1, 1) := bdX7_init_101 (102, .istore_n 1, 1) (List.mem_of_getElem? (i := 1) rfl)
theorem dX7_init_103 : decode cX7_init 103 = .ok (.iload_n 1, 1) := bdX7_init_101 (103, .iload_n 1, 1) (List.mem_of_getElem? (i := 2) rfl)
theorem dX7_init_104 : decode cX7_init 104 = .ok (.iconst 4, 1) := bdX7_init_101 (104, .iconst 4, 1) (List.mem_of_getElem? (i := 3) rfl)
theorem dX7_init_105 : decode cX7_init 105 = .ok (.if_icmp .ge 22, 3) := bdX7_init_101 (105, .if_icmp .ge 22, 3) (List.mem_of_getElem? (i := 4) rfl)
theorem dX7_init_108 : decode cX7_init 108 = .ok (.aload_n 0, 1) := bdX7_init_101 (108, .aload_n 0, 1) (List.mem_of_getElem? (i := 5) rfl)
theorem dX7_init_109 : decode cX7_init 109 = .ok (.getfield 42, 3) := bdX7_init_101 (109, .getfield 42, 3) (List.mem_of_getElem? (i := 6) rfl)
theorem dX7_init_112 : decode cX7_init 112 = .ok (.iload_n 1, 1) := bdX7_init_101 (112, .iload_n 1, 1) (List.mem_of_getElem? (i := 7) rfl)
theorem dX7_init_116 : decode cX7_init 116 = .ok (.dup, 1) := bdX7_init_101 (116, .dup, 1) (List.mem_of_getElem? (i := 8) rfl)
theorem dX7_init_117 : decode cX7_init 117 = .ok (.invokespecial 63, 3) := bdX7_init_101 (117, .invokespecial 63, 3) (List.mem_of_getElem? (i := 9) rfl)
theorem dX7_init_121 : decode cX7_init 121 = .ok (.iinc 1 1, 3) := bdX7_init_101 (121, .iinc 1 1, 3) (List.mem_of_getElem? (i := 10) rfl)
theorem dX7_init_124 : decode cX7_init 124 = .ok (.goto (-21), 3) := bdX7_init_101 (124, .goto (-21), 3) (List.mem_of_getElem? (i := 11) rfl)
theorem dX7_init_127 : decode cX7_init 127 = .ok (.iconst 0, 1) := bdX7_init_101 (127, .iconst 0, 1) (List.mem_of_getElem? (i := 12) rfl)
theorem dX7_init_128 : decode cX7_init 128 = .ok (.istore_n 1, 1) := bdX7_init_101 (128, .istore_n 1, 1) (List.mem_of_getElem? (i := 13) rfl)
theorem dX7_init_129 : decode cX7_init 129 = .ok (.iload_n 1, 1) := bdX7_init_101 (129, .iload_n 1, 1) (List.mem_of_getElem? (i := 14) rfl)
theorem dX7_init_130 : decode cX7_init 130 = .ok (.iconst 5, 1) := bdX7_init_101 (130, .iconst 5, 1) (List.mem_of_getElem? (i := 15) rfl)
theorem dX7_init_131 : decode cX7_init 131 = .ok (.if_icmp .ge 22, 3) := bdX7_init_101 (131, .if_icmp .ge 22, 3) (List.mem_of_getElem? (i := 16) rfl)
theorem dX7_init_134 : decode cX7_init 134 = .ok (.aload_n 0, 1) := bdX7_init_101 (134, .aload_n 0, 1) (List.mem_of_getElem? (i := 17) rfl)
theorem dX7_init_135 : decode cX7_init 135 = .ok (.getfield 48, 3) := bdX7_init_101 (135, .getfield 48, 3) (List.mem_of_getElem? (i := 18) rfl)
theorem dX7_init_138 : decode cX7_init 138 = .ok (.iload_n 1, 1) := bdX7_init_101 (138, .iload_n 1, 1) (List.mem_of_getElem? (i := 19) rfl)
theorem dX7_init_142 : decode cX7_init 142 = .ok (.dup, 1) := bdX7_init_101 (142, .dup, 1) (List.mem_of_getElem? (i := 20) rfl)
theorem dX7_init_143 : decode cX7_init 143 = .ok (.invokespecial 64, 3) := bdX7_init_101 (143, .invokespecial 64, 3) (List.mem_of_getElem? (i := 21) rfl)
theorem dX7_init_147 : decode cX7_init 147 = .ok (.iinc 1 1, 3) := bdX7_init_101 (147, .iinc 1 1, 3) (List.mem_of_getElem? (i := 22) rfl)
theorem dX7_init_150 : decode cX7_init 150 = .ok (.goto (-21), 3) := bdX7_init_101 (150, .goto (-21), 3) (List.mem_of_getElem? (i := 23) rfl)
theorem dX7_init_153 : decode cX7_init 153 = .ok (.return_, 1) := bdX7_init_101 (153, .return_, 1) (List.mem_of_getElem? (i := 24) rfl)
theorem budX7_init_5 : ∀ q ∈ ([(5, .ok (.new 7, 3)), (16, .ok (.new 7, 3)), (32, .ok (.new 7, 3)), (43, .ok (.new 26, 3)), (54, .ok (.new 33, 3)), (66, .ok (.anewarray 40, 3)), (74, .ok (.anewarray 46, 3)), (83, .ok (.newarray .int, 2)), (96, .ok (.newarray .int, 2)), (113, .ok (.new 40, 3)), (120, .ok (.aastore, 1)), (139, .ok (.new 46, 3)), (146, .ok (.aastore, 1))] : List (Nat × Except Jvm.ClassFile.DecodeError (Jvm.ClassFile.Instr × Nat))), decode cX7_init q.1 = q.2 := by decide +kernel
theorem dX7_init_5 : decode cX7_init 5 = .ok (.new 7, 3) := budX7_init_5 (5, .ok (.new 7, 3)) (List.mem_of_getElem? (i := 0) rfl)
theorem dX7_init_16 : decode cX7_init 16 = .ok (.new 7, 3) := budX7_init_5 (16, .ok (.new 7, 3)) (List.mem_of_getElem? (i := 1) rfl)
theorem dX7_init_32 : decode cX7_init 32 = .ok (.new 7, 3) := budX7_init_5 (32, .ok (.new 7, 3)) (List.mem_of_getElem? (i := 2) rfl)
theorem dX7_init_43 : decode cX7_init 43 = .ok (.new 26, 3) := budX7_init_5 (43, .ok (.new 26, 3)) (List.mem_of_getElem? (i := 3) rfl)
theorem dX7_init_54 : decode cX7_init 54 = .ok (.new 33, 3) := budX7_init_5 (54, .ok (.new 33, 3)) (List.mem_of_getElem? (i := 4) rfl)
theorem dX7_init_66 : decode cX7_init 66 = .ok (.anewarray 40, 3) := budX7_init_5 (66, .ok (.anewarray 40, 3)) (List.mem_of_getElem? (i := 5) rfl)
theorem dX7_init_74 : decode cX7_init 74 = .ok (.anewarray 46, 3) := budX7_init_5 (74, .ok (.anewarray 46, 3)) (List.mem_of_getElem? (i := 6) rfl)
theorem dX7_init_83 : decode cX7_init 83 = .ok (.newarray .int, 2) := budX7_init_5 (83, .ok (.newarray .int, 2)) (List.mem_of_getElem? (i := 7) rfl)
theorem dX7_init_96 : decode cX7_init 96 = .ok (.newarray .int, 2) := budX7_init_5 (96, .ok (.newarray .int, 2)) (List.mem_of_getElem? (i := 8) rfl)
theorem dX7_init_113 : decode cX7_init 113 = .ok (.new 40, 3) := budX7_init_5 (113, .ok (.new 40, 3)) (List.mem_of_getElem? (i := 9) rfl)
theorem dX7_init_120 : decode cX7_init 120 = .ok (.aastore, 1) := budX7_init_5 (120, .ok (.aastore, 1)) (List.mem_of_getElem? (i := 10) rfl)
theorem dX7_init_139 : decode cX7_init 139 = .ok (.new 46, 3) := budX7_init_5 (139, .ok (.new 46, 3)) (List.mem_of_getElem? (i := 11) rfl)
theorem dX7_init_146 : decode cX7_init 146 = .ok (.aastore, 1) := budX7_init_5 (146, .ok (.aastore, 1)) (List.mem_of_getElem? (i := 12) rfl)
theorem nX7_7 : clsOK RX7 7 0 12 := ⟨_, _, tyX0, ⟨rfl, iX0, rfl, by decide⟩, tyX0_ok, by decide, tw_85, tw_86, tw_61⟩
theorem kX7_9 : nstI RX7 9 yX0_init prog_2_method_1_code 1 0 := ⟨⟨List.mem_of_getElem? (i := 0) rfl, tw_61, tw_89⟩, by decide +kernel, tw_88, rfl⟩
theorem nX7_26 : clsOK RX7 26 4 6 := ⟨_, _, tyX4, ⟨rfl, iX4, rfl, by decide⟩, tyX4_ok, by decide, tw_149, tw_150, tw_62⟩
theorem kX7_28 : nstI RX7 28 yX4_init prog_6_method_1_code 1 0 := ⟨⟨List.mem_of_getElem? (i := 1) rfl, tw_62, tw_153⟩, by decide +kernel, tw_152, rfl⟩
theorem nX7_33 : clsOK RX7 33 2 11 := ⟨_, _, tyX2, ⟨rfl, iX2, rfl, by decide⟩, tyX2_ok, by decide, tw_177, tw_178, tw_63⟩
theorem kX7_35 : nstI RX7 35 yX2_init prog_4_method_1_code 1 0 := ⟨⟨List.mem_of_getElem? (i := 3) rfl, tw_63, tw_181⟩, by decide +kernel, tw_180, rfl⟩
theorem nX7_40 : clsOK RX7 40 3 3 := ⟨_, _, tyX3, ⟨rfl, iX3, rfl, by decide⟩, tyX3_ok, by decide, tw_234, tw_238, tw_65⟩
theorem kX7_63 : nstI RX7 63 yX3_init prog_5_method_1_code 1 0 := ⟨⟨List.mem_of_getElem? (i := 5) rfl, tw_65, tw_241⟩, by decide +kernel, tw_240, rfl⟩
theorem nX7_46 : clsOK RX7 46 5 5 := ⟨_, _, tyX5, ⟨rfl, iX5, rfl, by decide⟩, tyX5_ok, by decide, tw_236, tw_257, tw_66⟩
theorem kX7_64 : nstI RX7 64 yX5_init prog_7_method_1_code 1 0 := ⟨⟨List.mem_of_getElem? (i := 6) rfl, tw_66, tw_260⟩, by decide +kernel, tw_259, rfl⟩
def wpX7_init (N : Nat) (ln : Nat → Nat) (S : HC) (a0 : Nat) (post : Nat → (Nat → Nat) → HC → Prop) : Prop := nw_ N 0 ln S fun N1 ln S => wpX0_init N1 ln S N fun N2 ln S => lt_ (sR S a0 0 (some N)) fun S => nw_ N2 0 ln S fun N3 ln S => wpX0_init N3 ln S N2 fun N4 ln S => lt_ (sR S a0 1 (some N2)) fun S => lt_ (sI S a0 2 (0 : Int32)) fun S => nw_ N4 0 ln S fun N5 ln S => wpX0_init N5 ln S N4 fun N6 ln S => lt_ (sR S a0 3 (some N4)) fun S => nw_ N6 4 ln S fun N7 ln S => wpX4_init N7 ln S N6 fun N8 ln S => lt_ (sR S a0 4 (some N6)) fun S => nw_ N8 2 ln S fun N9 ln S => wpX2_init N9 ln S N8 fun N10 ln S => lt_ (sR S a0 5 (some N8)) fun S => na_ N10 14 (4 : Int32) 4 ln S fun N11 ln S => lt_ (sR S a0 6 (some N10)) fun S => na_ N11 15 (5 : Int32) 5 ln S fun N12 ln S => lt_ (sR S a0 7 (some N11)) fun S => na_ N12 9 (60 : Int32) 60 ln S fun N13 ln S => lt_ (sR S a0 8 (some N12)) fun S => lt_ (sI S a0 9 (0 : Int32)) fun S => na_ N13 9 (96 : Int32) 96 ln S fun N14 ln S => lt_ (sR S a0 10 (some N13)) fun S => dn_ (hR S a0 6) fun b15 => nw_ N14 3 ln S fun N16 ln S => wpX3_init N16 ln S N14 fun N17 ln S => as_ (ln b15) (0 : Int32) (fun j => sR S b15 j (some N14)) fun S => dn_ (hR S a0 6) fun b18 => nw_ N17 3 ln S fun N19 ln S => wpX3_init N19 ln S N17 fun N20 ln S => as_ (ln b18) (1 : Int32) (fun j => sR S b18 j (some N17)) fun S => dn_ (hR S a0 6) fun b21 => nw_ N20 3 ln S fun N22 ln S => wpX3_init N22 ln S N20 fun N23 ln S => as_ (ln b21) (2 : Int32) (fun j => sR S b21 j (some N20)) fun S => dn_ (hR S a0 6) fun b24 => nw_ N23 3 ln S fun N25 ln S => wpX3_init N25 ln S N23 fun N26 ln S => as_ (ln b24) (3 : Int32) (fun j => sR S b24 j (some N23)) fun S => dn_ (hR S a0 7) fun b27 => nw_ N26 5 ln S fun N28 ln S => wpX5_init N28 ln S N26 fun N29 ln S => as_ (ln b27) (0 : Int32) (fun j => sR S b27 j (some N26)) fun S => dn_ (hR S a0 7) fun b30 => nw_ N29 5 ln S fun N31 ln S => wpX5_init N31 ln S N29 fun N32 ln S => as_ (ln b30) (1 : Int32) (fun j => sR S b30 j (some N29)) fun S => dn_ (hR S a0 7) fun b33 => nw_ N32 5 ln S fun N34 ln S => wpX5_init N34 ln S N32 fun N35 ln S => as_ (ln b33) (2 : Int32) (fun j => sR S b33 j (some N32)) fun S => dn_ (hR S a0 7) fun b36 => nw_ N35 5 ln S fun N37 ln S => wpX5_init N37 ln S N35 fun N38 ln S => as_ (ln b36) (3 : Int32) (fun j => sR S b36 j (some N35)) fun S => dn_ (hR S a0 7) fun b39 => nw_ N38 5 ln S fun N40 ln S => wpX5_init N40 ln S N38 fun N41 ln S => as_ (ln b39) (4 : Int32) (fun j => sR S b39 j (some N38)) fun S => post N41 ln S
abbrev rmX7_init : Room := { frames := 3, cells := 67, slots := 1306, locals := 60 }
set_option maxHeartbeats 4000000 in
set_option maxRecDepth 100000 in
theorem ctX7_init {l : Launch} {g : GX} {N : Nat} {ln : Nat → Nat} {S : HC} {a0 : Nat} {post : Nat → (Nat → Nat) → HC → Prop} (hr_a0 : a0 < N) (hk_a0 : kd a0 = 7) (h : wpX7_init N ln S a0 post) : Met l yX7_init (Cond.code yX7_init prog_1_method_1_code 2 (Option.none : Option Jvm.ClassFile.FieldType) :: gtbl) rmX7_init (va_Pc [.ref (gz g + a0)] (AtP g N ln S)) (QXV g N post) 67 1306 (gF g) := by
  refine m_of (by decide) (Nat.le_of_ble_eq_true rfl) ?_
  intro p e s m below meth c ls F hr I hl
  have hl : lv_has ls 2 [(0, .ref (gz g + a0))] := hl
  unfold wpX7_init at h
  have hN := Nat.le_refl N
  refine lv_aload_n F.1 F.2.1 dX7_init_0 rfl (lv_at hl 0 rfl) ?_
  refine W.objInit F.1 F.2.1 F.2.2.2.1 (F.2.2.2.2 _ tw_82) (F.2.2.2.2 _ tw_83) (F.2.2.2.2 _ tw_84) rfl (by rw [F.2.2.1]; exact hl.1) rfl dX7_init_1 (Nat.le_of_ble_eq_true rfl) (Nat.le_of_ble_eq_true rfl) ?_
  refine W.eq (g2 := F0 m 4 ls []) rfl ?_
  refine lv_aload_n F.1 F.2.1 dX7_init_4 rfl (lv_at hl 0 rfl) ?_
  refine r_new F I nX7_7 h ⟨Nat.le_of_ble_eq_true rfl, Nat.le_of_ble_eq_true rfl⟩ dX7_init_5 (fun N1 ln S H hr_N hk_N I h => ?_)
  have hr_a0 := Nat.lt_of_lt_of_le hr_a0 (Nat.le_of_lt hr_N)
  have hN := Nat.le_trans hN (Nat.le_of_lt hr_N)
  refine lv_dup F.1 F.2.1 dX7_init_8 rfl ?_
  refine g_XV I (run_NI (As := []) (rest := [.ref (gz g + N), .ref (gz g + a0)]) F I kX7_9 (ctX0_init hr_N hk_N h) ⟨rfl, rfl⟩ ⟨Nat.le_of_ble_eq_true rfl, Nat.le_of_ble_eq_true rfl⟩ rfl hl.1 rfl (Nat.le_of_ble_eq_true rfl) ⟨Nat.le_of_ble_eq_true rfl, Nat.le_of_ble_eq_true rfl⟩ dX7_init_9) (fun N2 ln S H locs hNN I h => ?_)
  have hr_a0 := Nat.lt_of_lt_of_le hr_a0 hNN
  have hr_N := Nat.lt_of_lt_of_le hr_N hNN
  have hN := Nat.le_trans hN hNN
  refine r_putN F I hr_a0 hk_a0 fX7_10 (f := 0) rfl (by decide) (Or.inr ⟨hr.2.2, rfl⟩) hr_N hk_N (fun _ => ⟨⟨rfl, rfl⟩, rfl, rfl⟩) dX7_init_12 h (fun S H locs I h => ?_)
  refine lv_aload_n F.1 F.2.1 dX7_init_15 rfl (lv_at hl 0 rfl) ?_
  refine r_new F I nX7_7 h ⟨Nat.le_of_ble_eq_true rfl, Nat.le_of_ble_eq_true rfl⟩ dX7_init_16 (fun N3 ln S H hr_N2 hk_N2 I h => ?_)
  have hr_a0 := Nat.lt_of_lt_of_le hr_a0 (Nat.le_of_lt hr_N2)
  have hN := Nat.le_trans hN (Nat.le_of_lt hr_N2)
  refine lv_dup F.1 F.2.1 dX7_init_19 rfl ?_
  refine g_XV I (run_NI (As := []) (rest := [.ref (gz g + N2), .ref (gz g + a0)]) F I kX7_9 (ctX0_init hr_N2 hk_N2 h) ⟨rfl, rfl⟩ ⟨Nat.le_of_ble_eq_true rfl, Nat.le_of_ble_eq_true rfl⟩ rfl hl.1 rfl (Nat.le_of_ble_eq_true rfl) ⟨Nat.le_of_ble_eq_true rfl, Nat.le_of_ble_eq_true rfl⟩ dX7_init_20) (fun N4 ln S H locs hNN I h => ?_)
  have hr_a0 := Nat.lt_of_lt_of_le hr_a0 hNN
  have hr_N2 := Nat.lt_of_lt_of_le hr_N2 hNN
  have hN := Nat.le_trans hN hNN
  refine r_putN F I hr_a0 hk_a0 fX7_16 (f := 0) rfl (by decide) (Or.inr ⟨hr.2.2, rfl⟩) hr_N2 hk_N2 (fun _ => ⟨⟨rfl, rfl⟩, rfl, rfl⟩) dX7_init_23 h (fun S H locs I h => ?_)
  refine lv_aload_n F.1 F.2.1 dX7_init_26 rfl (lv_at hl 0 rfl) ?_
  refine lv_iconst (v := 0) F.1 F.2.1 dX7_init_27 (by decide) ?_
  refine r_putI F I hr_a0 hk_a0 fX7_19 rfl (Or.inl rfl) ⟨by decide, by decide⟩ dX7_init_28 h (fun S H locs I h => ?_)
  refine lv_aload_n F.1 F.2.1 dX7_init_31 rfl (lv_at hl 0 rfl) ?_
  refine r_new F I nX7_7 h ⟨Nat.le_of_ble_eq_true rfl, Nat.le_of_ble_eq_true rfl⟩ dX7_init_32 (fun N5 ln S H hr_N4 hk_N4 I h => ?_)
  have hr_a0 := Nat.lt_of_lt_of_le hr_a0 (Nat.le_of_lt hr_N4)
  have hN := Nat.le_trans hN (Nat.le_of_lt hr_N4)
  refine lv_dup F.1 F.2.1 dX7_init_35 rfl ?_
  refine g_XV I (run_NI (As := []) (rest := [.ref (gz g + N4), .ref (gz g + a0)]) F I kX7_9 (ctX0_init hr_N4 hk_N4 h) ⟨rfl, rfl⟩ ⟨Nat.le_of_ble_eq_true rfl, Nat.le_of_ble_eq_true rfl⟩ rfl hl.1 rfl (Nat.le_of_ble_eq_true rfl) ⟨Nat.le_of_ble_eq_true rfl, Nat.le_of_ble_eq_true rfl⟩ dX7_init_36) (fun N6 ln S H locs hNN I h => ?_)
  have hr_a0 := Nat.lt_of_lt_of_le hr_a0 hNN
  have hr_N4 := Nat.lt_of_lt_of_le hr_N4 hNN
  have hN := Nat.le_trans hN hNN
  refine r_putN F I hr_a0 hk_a0 fX7_23 (f := 0) rfl (by decide) (Or.inr ⟨hr.2.2, rfl⟩) hr_N4 hk_N4 (fun _ => ⟨⟨rfl, rfl⟩, rfl, rfl⟩) dX7_init_39 h (fun S H locs I h => ?_)
  refine lv_aload_n F.1 F.2.1 dX7_init_42 rfl (lv_at hl 0 rfl) ?_
  refine r_new F I nX7_26 h ⟨Nat.le_of_ble_eq_true rfl, Nat.le_of_ble_eq_true rfl⟩ dX7_init_43 (fun N7 ln S H hr_N6 hk_N6 I h => ?_)
  have hr_a0 := Nat.lt_of_lt_of_le hr_a0 (Nat.le_of_lt hr_N6)
  have hN := Nat.le_trans hN (Nat.le_of_lt hr_N6)
  refine lv_dup F.1 F.2.1 dX7_init_46 rfl ?_
  refine g_XV I (run_NI (As := []) (rest := [.ref (gz g + N6), .ref (gz g + a0)]) F I kX7_28 (ctX4_init hr_N6 hk_N6 h) ⟨rfl, rfl⟩ ⟨Nat.le_of_ble_eq_true rfl, Nat.le_of_ble_eq_true rfl⟩ rfl hl.1 rfl (Nat.le_of_ble_eq_true rfl) ⟨Nat.le_of_ble_eq_true rfl, Nat.le_of_ble_eq_true rfl⟩ dX7_init_47) (fun N8 ln S H locs hNN I h => ?_)
  have hr_a0 := Nat.lt_of_lt_of_le hr_a0 hNN
  have hr_N6 := Nat.lt_of_lt_of_le hr_N6 hNN
  have hN := Nat.le_trans hN hNN
  refine r_putN F I hr_a0 hk_a0 fX7_29 (f := 4) rfl (by decide) (Or.inr ⟨hr.2.2, rfl⟩) hr_N6 hk_N6 (fun _ => ⟨⟨rfl, rfl⟩, rfl, rfl⟩) dX7_init_50 h (fun S H locs I h => ?_)
  refine lv_aload_n F.1 F.2.1 dX7_init_53 rfl (lv_at hl 0 rfl) ?_
  refine r_new F I nX7_33 h ⟨Nat.le_of_ble_eq_true rfl, Nat.le_of_ble_eq_true rfl⟩ dX7_init_54 (fun N9 ln S H hr_N8 hk_N8 I h => ?_)
  have hr_a0 := Nat.lt_of_lt_of_le hr_a0 (Nat.le_of_lt hr_N8)
  have hN := Nat.le_trans hN (Nat.le_of_lt hr_N8)
  refine lv_dup F.1 F.2.1 dX7_init_57 rfl ?_
  refine g_XV I (run_NI (As := []) (rest := [.ref (gz g + N8), .ref (gz g + a0)]) F I kX7_35 (ctX2_init hr_N8 hk_N8 h) ⟨rfl, rfl⟩ ⟨Nat.le_of_ble_eq_true rfl, Nat.le_of_ble_eq_true rfl⟩ rfl hl.1 rfl (Nat.le_of_ble_eq_true rfl) ⟨Nat.le_of_ble_eq_true rfl, Nat.le_of_ble_eq_true rfl⟩ dX7_init_58) (fun N10 ln S H locs hNN I h => ?_)
  have hr_a0 := Nat.lt_of_lt_of_le hr_a0 hNN
  have hr_N8 := Nat.lt_of_lt_of_le hr_N8 hNN
  have hN := Nat.le_trans hN hNN
  refine r_putN F I hr_a0 hk_a0 fX7_36 (f := 2) rfl (by decide) (Or.inr ⟨hr.2.2, rfl⟩) hr_N8 hk_N8 (fun _ => ⟨⟨rfl, rfl⟩, rfl, rfl⟩) dX7_init_61 h (fun S H locs I h => ?_)
  refine lv_aload_n F.1 F.2.1 dX7_init_64 rfl (lv_at hl 0 rfl) ?_
  refine lv_iconst (v := 4) F.1 F.2.1 dX7_init_65 (by decide) ?_
  refine r_newq (B := 4) (q := 14) F I h (by decide) rfl tw_234 (fun q => q.2.1.2.1) ⟨Nat.le_of_ble_eq_true rfl, Nat.le_of_ble_eq_true rfl⟩ (Nat.le_of_ble_eq_true rfl) dX7_init_66 (fun N11 ln S H hr_N10 hk_N10 I h => ?_)
  have hr_a0 := Nat.lt_of_lt_of_le hr_a0 (Nat.le_of_lt hr_N10)
  have hN := Nat.le_trans hN (Nat.le_of_lt hr_N10)
  refine r_putN F I hr_a0 hk_a0 fX7_42 (f := 14) rfl (by decide) (Or.inr ⟨hr.2.2, rfl⟩) hr_N10 hk_N10 (fun _ => ⟨⟨rfl, rfl⟩, rfl, rfl⟩) dX7_init_69 h (fun S H locs I h => ?_)
  refine lv_aload_n F.1 F.2.1 dX7_init_72 rfl (lv_at hl 0 rfl) ?_
  refine lv_iconst (v := 5) F.1 F.2.1 dX7_init_73 (by decide) ?_
  refine r_newq (B := 5) (q := 15) F I h (by decide) rfl tw_236 (fun q => q.2.1.2.2) ⟨Nat.le_of_ble_eq_true rfl, Nat.le_of_ble_eq_true rfl⟩ (Nat.le_of_ble_eq_true rfl) dX7_init_74 (fun N12 ln S H hr_N11 hk_N11 I h => ?_)
  have hr_a0 := Nat.lt_of_lt_of_le hr_a0 (Nat.le_of_lt hr_N11)
  have hN := Nat.le_trans hN (Nat.le_of_lt hr_N11)
  refine r_putN F I hr_a0 hk_a0 fX7_48 (f := 15) rfl (by decide) (Or.inr ⟨hr.2.2, rfl⟩) hr_N11 hk_N11 (fun _ => ⟨⟨rfl, rfl⟩, rfl, rfl⟩) dX7_init_77 h (fun S H locs I h => ?_)
  refine lv_aload_n F.1 F.2.1 dX7_init_80 rfl (lv_at hl 0 rfl) ?_
  refine lv_bipush (v := 60) F.1 F.2.1 dX7_init_81 (by decide) ?_
  refine r_newa (B := 60) F I h tw_148 ⟨Nat.le_of_ble_eq_true rfl, Nat.le_of_ble_eq_true rfl⟩ (Nat.le_of_ble_eq_true rfl) dX7_init_83 (fun N13 ln S H hr_N12 hk_N12 I h => ?_)
  have hr_a0 := Nat.lt_of_lt_of_le hr_a0 (Nat.le_of_lt hr_N12)
  have hN := Nat.le_trans hN (Nat.le_of_lt hr_N12)
  refine r_putN F I hr_a0 hk_a0 fX7_52 (f := 9) rfl (by decide) (Or.inr ⟨hr.2.2, rfl⟩) hr_N12 hk_N12 (fun _ => ⟨⟨rfl, rfl⟩, rfl, rfl⟩) dX7_init_85 h (fun S H locs I h => ?_)
  refine lv_aload_n F.1 F.2.1 dX7_init_88 rfl (lv_at hl 0 rfl) ?_
  refine lv_iconst (v := 0) F.1 F.2.1 dX7_init_89 (by decide) ?_
  refine r_putI F I hr_a0 hk_a0 fX7_56 rfl (Or.inl rfl) ⟨rfl, rfl⟩ dX7_init_90 h (fun S H locs I h => ?_)
  refine lv_aload_n F.1 F.2.1 dX7_init_93 rfl (lv_at hl 0 rfl) ?_
  refine lv_bipush (v := 96) F.1 F.2.1 dX7_init_94 (by decide) ?_
  refine r_newa (B := 96) F I h tw_148 ⟨Nat.le_of_ble_eq_true rfl, Nat.le_of_ble_eq_true rfl⟩ (Nat.le_of_ble_eq_true rfl) dX7_init_96 (fun N14 ln S H hr_N13 hk_N13 I h => ?_)
  have hr_a0 := Nat.lt_of_lt_of_le hr_a0 (Nat.le_of_lt hr_N13)
  have hN := Nat.le_trans hN (Nat.le_of_lt hr_N13)
  refine r_putN F I hr_a0 hk_a0 fX7_60 (f := 9) rfl (by decide) (Or.inr ⟨hr.2.2, rfl⟩) hr_N13 hk_N13 (fun _ => ⟨⟨rfl, rfl⟩, rfl, rfl⟩) dX7_init_98 h (fun S H locs I h => ?_)
  refine lv_iconst (v := 0) F.1 F.2.1 dX7_init_101 (by decide) ?_
  refine lv_istore_n (lv' := [(1, .int (0 : Int32)), (0, .ref (gz g + a0))]) F.1 F.2.1 dX7_init_102 rfl hl (by decide) rfl (fun ls hl => ?_)
  refine lv_iload_n F.1 F.2.1 dX7_init_103 rfl (lv_at hl 0 rfl) ?_
  refine lv_iconst (v := 4) F.1 F.2.1 dX7_init_104 (by decide) ?_
  refine lv_icmp_ge (tgt := 127) F.1 F.2.1 dX7_init_105 (by decide) (fun q => absurd q (by decide)) (fun _ => ?_)
  refine lv_aload_n F.1 F.2.1 dX7_init_108 rfl (lv_at hl 1 rfl) ?_
  refine r_getN F I hr_a0 hk_a0 fX7_42 (f := 14) rfl (by decide) dX7_init_109 h (fun b15 hr_b15 hk_b15 h => ?_)
  refine lv_iload_n F.1 F.2.1 dX7_init_112 rfl (lv_at hl 0 rfl) ?_
  refine r_new F I nX7_40 h ⟨Nat.le_of_ble_eq_true rfl, Nat.le_of_ble_eq_true rfl⟩ dX7_init_113 (fun N16 ln S H hr_N14 hk_N14 I h => ?_)
  have hr_a0 := Nat.lt_of_lt_of_le hr_a0 (Nat.le_of_lt hr_N14)
  have hr_b15 := Nat.lt_of_lt_of_le hr_b15 (Nat.le_of_lt hr_N14)
  have hN := Nat.le_trans hN (Nat.le_of_lt hr_N14)
  refine lv_dup F.1 F.2.1 dX7_init_116 rfl ?_
  refine g_XV I (run_NI (As := []) (rest := [.ref (gz g + N14), .int (0 : Int32), .ref (gz g + b15)]) F I kX7_63 (ctX3_init hr_N14 hk_N14 h) ⟨rfl, rfl⟩ ⟨Nat.le_of_ble_eq_true rfl, Nat.le_of_ble_eq_true rfl⟩ rfl hl.1 rfl (Nat.le_of_ble_eq_true rfl) ⟨Nat.le_of_ble_eq_true rfl, Nat.le_of_ble_eq_true rfl⟩ dX7_init_117) (fun N17 ln S H locs hNN I h => ?_)
  have hr_a0 := Nat.lt_of_lt_of_le hr_a0 hNN
  have hr_b15 := Nat.lt_of_lt_of_le hr_b15 hNN
  have hr_N14 := Nat.lt_of_lt_of_le hr_N14 hNN
  have hN := Nat.le_trans hN hNN
  refine r_astN F I hr_b15 hk_b15 (by decide) (f := 3) rfl hr_N14 hk_N14 dX7_init_120 h (fun S H locs I h => ?_)
  refine lv_iinc (v := 1) (lv' := [(1, .int (1 : Int32)), (0, .ref (gz g + a0))]) F.1 F.2.1 dX7_init_121 hl (k := 0) rfl (by decide) (by decide) rfl (fun ls hl => ?_)
  refine lv_goto (tgt := 103) F.1 F.2.1 dX7_init_124 (by decide) ?_
  refine lv_iload_n F.1 F.2.1 dX7_init_103 rfl (lv_at hl 0 rfl) ?_
  refine lv_iconst (v := 4) F.1 F.2.1 dX7_init_104 (by decide) ?_
  refine lv_icmp_ge (tgt := 127) F.1 F.2.1 dX7_init_105 (by decide) (fun q => absurd q (by decide)) (fun _ => ?_)
  refine lv_aload_n F.1 F.2.1 dX7_init_108 rfl (lv_at hl 1 rfl) ?_
  refine r_getN F I hr_a0 hk_a0 fX7_42 (f := 14) rfl (by decide) dX7_init_109 h (fun b18 hr_b18 hk_b18 h => ?_)
  refine lv_iload_n F.1 F.2.1 dX7_init_112 rfl (lv_at hl 0 rfl) ?_
  refine r_new F I nX7_40 h ⟨Nat.le_of_ble_eq_true rfl, Nat.le_of_ble_eq_true rfl⟩ dX7_init_113 (fun N19 ln S H hr_N17 hk_N17 I h => ?_)
  have hr_a0 := Nat.lt_of_lt_of_le hr_a0 (Nat.le_of_lt hr_N17)
  have hr_b18 := Nat.lt_of_lt_of_le hr_b18 (Nat.le_of_lt hr_N17)
  have hN := Nat.le_trans hN (Nat.le_of_lt hr_N17)
  refine lv_dup F.1 F.2.1 dX7_init_116 rfl ?_
  refine g_XV I (run_NI (As := []) (rest := [.ref (gz g + N17), .int (1 : Int32), .ref (gz g + b18)]) F I kX7_63 (ctX3_init hr_N17 hk_N17 h) ⟨rfl, rfl⟩ ⟨Nat.le_of_ble_eq_true rfl, Nat.le_of_ble_eq_true rfl⟩ rfl hl.1 rfl (Nat.le_of_ble_eq_true rfl) ⟨Nat.le_of_ble_eq_true rfl, Nat.le_of_ble_eq_true rfl⟩ dX7_init_117) (fun N20 ln S H locs hNN I h => ?_)
  have hr_a0 := Nat.lt_of_lt_of_le hr_a0 hNN
  have hr_b18 := Nat.lt_of_lt_of_le hr_b18 hNN
  have hr_N17 := Nat.lt_of_lt_of_le hr_N17 hNN
  have hN := Nat.le_trans hN hNN
  refine r_astN F I hr_b18 hk_b18 (by decide) (f := 3) rfl hr_N17 hk_N17 dX7_init_120 h (fun S H locs I h => ?_)
  refine lv_iinc (v := 2) (lv' := [(1, .int (2 : Int32)), (0, .ref (gz g + a0))]) F.1 F.2.1 dX7_init_121 hl (k := 0) rfl (by decide) (by decide) rfl (fun ls hl => ?_)
  refine lv_goto (tgt := 103) F.1 F.2.1 dX7_init_124 (by decide) ?_
  refine lv_iload_n F.1 F.2.1 dX7_init_103 rfl (lv_at hl 0 rfl) ?_
  refine lv_iconst (v := 4) F.1 F.2.1 dX7_init_104 (by decide) ?_
  refine lv_icmp_ge (tgt := 127) F.1 F.2.1 dX7_init_105 (by decide) (fun q => absurd q (by decide)) (fun _ => ?_)
  refine lv_aload_n F.1 F.2.1 dX7_init_108 rfl (lv_at hl 1 rfl) ?_
  refine r_getN F I hr_a0 hk_a0 fX7_42 (f := 14) rfl (by decide) dX7_init_109 h (fun b21 hr_b21 hk_b21 h => ?_)
  refine lv_iload_n F.1 F.2.1 dX7_init_112 rfl (lv_at hl 0 rfl) ?_
  refine r_new F I nX7_40 h ⟨Nat.le_of_ble_eq_true rfl, Nat.le_of_ble_eq_true rfl⟩ dX7_init_113 (fun N22 ln S H hr_N20 hk_N20 I h => ?_)
  have hr_a0 := Nat.lt_of_lt_of_le hr_a0 (Nat.le_of_lt hr_N20)
  have hr_b21 := Nat.lt_of_lt_of_le hr_b21 (Nat.le_of_lt hr_N20)
  have hN := Nat.le_trans hN (Nat.le_of_lt hr_N20)
  refine lv_dup F.1 F.2.1 dX7_init_116 rfl ?_
  refine g_XV I (run_NI (As := []) (rest := [.ref (gz g + N20), .int (2 : Int32), .ref (gz g + b21)]) F I kX7_63 (ctX3_init hr_N20 hk_N20 h) ⟨rfl, rfl⟩ ⟨Nat.le_of_ble_eq_true rfl, Nat.le_of_ble_eq_true rfl⟩ rfl hl.1 rfl (Nat.le_of_ble_eq_true rfl) ⟨Nat.le_of_ble_eq_true rfl, Nat.le_of_ble_eq_true rfl⟩ dX7_init_117) (fun N23 ln S H locs hNN I h => ?_)
  have hr_a0 := Nat.lt_of_lt_of_le hr_a0 hNN
  have hr_b21 := Nat.lt_of_lt_of_le hr_b21 hNN
  have hr_N20 := Nat.lt_of_lt_of_le hr_N20 hNN
  have hN := Nat.le_trans hN hNN
  refine r_astN F I hr_b21 hk_b21 (by decide) (f := 3) rfl hr_N20 hk_N20 dX7_init_120 h (fun S H locs I h => ?_)
  refine lv_iinc (v := 3) (lv' := [(1, .int (3 : Int32)), (0, .ref (gz g + a0))]) F.1 F.2.1 dX7_init_121 hl (k := 0) rfl (by decide) (by decide) rfl (fun ls hl => ?_)
  refine lv_goto (tgt := 103) F.1 F.2.1 dX7_init_124 (by decide) ?_
  refine lv_iload_n F.1 F.2.1 dX7_init_103 rfl (lv_at hl 0 rfl) ?_
  refine lv_iconst (v := 4) F.1 F.2.1 dX7_init_104 (by decide) ?_
  refine lv_icmp_ge (tgt := 127) F.1 F.2.1 dX7_init_105 (by decide) (fun q => absurd q (by decide)) (fun _ => ?_)
  refine lv_aload_n F.1 F.2.1 dX7_init_108 rfl (lv_at hl 1 rfl) ?_
  refine r_getN F I hr_a0 hk_a0 fX7_42 (f := 14) rfl (by decide) dX7_init_109 h (fun b24 hr_b24 hk_b24 h => ?_)
  refine lv_iload_n F.1 F.2.1 dX7_init_112 rfl (lv_at hl 0 rfl) ?_
  refine r_new F I nX7_40 h ⟨Nat.le_of_ble_eq_true rfl, Nat.le_of_ble_eq_true rfl⟩ dX7_init_113 (fun N25 ln S H hr_N23 hk_N23 I h => ?_)
  have hr_a0 := Nat.lt_of_lt_of_le hr_a0 (Nat.le_of_lt hr_N23)
  have hr_b24 := Nat.lt_of_lt_of_le hr_b24 (Nat.le_of_lt hr_N23)
  have hN := Nat.le_trans hN (Nat.le_of_lt hr_N23)
  refine lv_dup F.1 F.2.1 dX7_init_116 rfl ?_
  refine g_XV I (run_NI (As := []) (rest := [.ref (gz g + N23), .int (3 : Int32), .ref (gz g + b24)]) F I kX7_63 (ctX3_init hr_N23 hk_N23 h) ⟨rfl, rfl⟩ ⟨Nat.le_of_ble_eq_true rfl, Nat.le_of_ble_eq_true rfl⟩ rfl hl.1 rfl (Nat.le_of_ble_eq_true rfl) ⟨Nat.le_of_ble_eq_true rfl, Nat.le_of_ble_eq_true rfl⟩ dX7_init_117) (fun N26 ln S H locs hNN I h => ?_)
  have hr_a0 := Nat.lt_of_lt_of_le hr_a0 hNN
  have hr_b24 := Nat.lt_of_lt_of_le hr_b24 hNN
  have hr_N23 := Nat.lt_of_lt_of_le hr_N23 hNN
  have hN := Nat.le_trans hN hNN
  refine r_astN F I hr_b24 hk_b24 (by decide) (f := 3) rfl hr_N23 hk_N23 dX7_init_120 h (fun S H locs I h => ?_)
  refine lv_iinc (v := 4) (lv' := [(1, .int (4 : Int32)), (0, .ref (gz g + a0))]) F.1 F.2.1 dX7_init_121 hl (k := 0) rfl (by decide) (by decide) rfl (fun ls hl => ?_)
  refine lv_goto (tgt := 103) F.1 F.2.1 dX7_init_124 (by decide) ?_
  refine lv_iload_n F.1 F.2.1 dX7_init_103 rfl (lv_at hl 0 rfl) ?_
  refine lv_iconst (v := 4) F.1 F.2.1 dX7_init_104 (by decide) ?_
  refine lv_icmp_ge (tgt := 127) F.1 F.2.1 dX7_init_105 (by decide) (fun _ => ?_) (fun q => absurd (by decide) q)
  refine lv_iconst (v := 0) F.1 F.2.1 dX7_init_127 (by decide) ?_
  refine lv_istore_n (lv' := [(1, .int (0 : Int32)), (0, .ref (gz g + a0))]) F.1 F.2.1 dX7_init_128 rfl hl (by decide) rfl (fun ls hl => ?_)
  refine lv_iload_n F.1 F.2.1 dX7_init_129 rfl (lv_at hl 0 rfl) ?_
  refine lv_iconst (v := 5) F.1 F.2.1 dX7_init_130 (by decide) ?_
  refine lv_icmp_ge (tgt := 153) F.1 F.2.1 dX7_init_131 (by decide) (fun q => absurd q (by decide)) (fun _ => ?_)
  refine lv_aload_n F.1 F.2.1 dX7_init_134 rfl (lv_at hl 1 rfl) ?_
  refine r_getN F I hr_a0 hk_a0 fX7_48 (f := 15) rfl (by decide) dX7_init_135 h (fun b27 hr_b27 hk_b27 h => ?_)
  refine lv_iload_n F.1 F.2.1 dX7_init_138 rfl (lv_at hl 0 rfl) ?_
  refine r_new F I nX7_46 h ⟨Nat.le_of_ble_eq_true rfl, Nat.le_of_ble_eq_true rfl⟩ dX7_init_139 (fun N28 ln S H hr_N26 hk_N26 I h => ?_)
  have hr_a0 := Nat.lt_of_lt_of_le hr_a0 (Nat.le_of_lt hr_N26)
  have hr_b27 := Nat.lt_of_lt_of_le hr_b27 (Nat.le_of_lt hr_N26)
  have hN := Nat.le_trans hN (Nat.le_of_lt hr_N26)
  refine lv_dup F.1 F.2.1 dX7_init_142 rfl ?_
  refine g_XV I (run_NI (As := []) (rest := [.ref (gz g + N26), .int (0 : Int32), .ref (gz g + b27)]) F I kX7_64 (ctX5_init hr_N26 hk_N26 h) ⟨rfl, rfl⟩ ⟨Nat.le_of_ble_eq_true rfl, Nat.le_of_ble_eq_true rfl⟩ rfl hl.1 rfl (Nat.le_of_ble_eq_true rfl) ⟨Nat.le_of_ble_eq_true rfl, Nat.le_of_ble_eq_true rfl⟩ dX7_init_143) (fun N29 ln S H locs hNN I h => ?_)
  have hr_a0 := Nat.lt_of_lt_of_le hr_a0 hNN
  have hr_b27 := Nat.lt_of_lt_of_le hr_b27 hNN
  have hr_N26 := Nat.lt_of_lt_of_le hr_N26 hNN
  have hN := Nat.le_trans hN hNN
  refine r_astN F I hr_b27 hk_b27 (by decide) (f := 5) rfl hr_N26 hk_N26 dX7_init_146 h (fun S H locs I h => ?_)
  refine lv_iinc (v := 1) (lv' := [(1, .int (1 : Int32)), (0, .ref (gz g + a0))]) F.1 F.2.1 dX7_init_147 hl (k := 0) rfl (by decide) (by decide) rfl (fun ls hl => ?_)
  refine lv_goto (tgt := 129) F.1 F.2.1 dX7_init_150 (by decide) ?_
  refine lv_iload_n F.1 F.2.1 dX7_init_129 rfl (lv_at hl 0 rfl) ?_
  refine lv_iconst (v := 5) F.1 F.2.1 dX7_init_130 (by decide) ?_
  refine lv_icmp_ge (tgt := 153) F.1 F.2.1 dX7_init_131 (by decide) (fun q => absurd q (by decide)) (fun _ => ?_)
  refine lv_aload_n F.1 F.2.1 dX7_init_134 rfl (lv_at hl 1 rfl) ?_
  refine r_getN F I hr_a0 hk_a0 fX7_48 (f := 15) rfl (by decide) dX7_init_135 h (fun b30 hr_b30 hk_b30 h => ?_)
  refine lv_iload_n F.1 F.2.1 dX7_init_138 rfl (lv_at hl 0 rfl) ?_
  refine r_new F I nX7_46 h ⟨Nat.le_of_ble_eq_true rfl, Nat.le_of_ble_eq_true rfl⟩ dX7_init_139 (fun N31 ln S H hr_N29 hk_N29 I h => ?_)
  have hr_a0 := Nat.lt_of_lt_of_le hr_a0 (Nat.le_of_lt hr_N29)
  have hr_b30 := Nat.lt_of_lt_of_le hr_b30 (Nat.le_of_lt hr_N29)
  have hN := Nat.le_trans hN (Nat.le_of_lt hr_N29)
  refine lv_dup F.1 F.2.1 dX7_init_142 rfl ?_
  refine g_XV I (run_NI (As := []) (rest := [.ref (gz g + N29), .int (1 : Int32), .ref (gz g + b30)]) F I kX7_64 (ctX5_init hr_N29 hk_N29 h) ⟨rfl, rfl⟩ ⟨Nat.le_of_ble_eq_true rfl, Nat.le_of_ble_eq_true rfl⟩ rfl hl.1 rfl (Nat.le_of_ble_eq_true rfl) ⟨Nat.le_of_ble_eq_true rfl, Nat.le_of_ble_eq_true rfl⟩ dX7_init_143) (fun N32 ln S H locs hNN I h => ?_)
  have hr_a0 := Nat.lt_of_lt_of_le hr_a0 hNN
  have hr_b30 := Nat.lt_of_lt_of_le hr_b30 hNN
  have hr_N29 := Nat.lt_of_lt_of_le hr_N29 hNN
  have hN := Nat.le_trans hN hNN
  refine r_astN F I hr_b30 hk_b30 (by decide) (f := 5) rfl hr_N29 hk_N29 dX7_init_146 h (fun S H locs I h => ?_)
  refine lv_iinc (v := 2) (lv' := [(1, .int (2 : Int32)), (0, .ref (gz g + a0))]) F.1 F.2.1 dX7_init_147 hl (k := 0) rfl (by decide) (by decide) rfl (fun ls hl => ?_)
  refine lv_goto (tgt := 129) F.1 F.2.1 dX7_init_150 (by decide) ?_
  refine lv_iload_n F.1 F.2.1 dX7_init_129 rfl (lv_at hl 0 rfl) ?_
  refine lv_iconst (v := 5) F.1 F.2.1 dX7_init_130 (by decide) ?_
  refine lv_icmp_ge (tgt := 153) F.1 F.2.1 dX7_init_131 (by decide) (fun q => absurd q (by decide)) (fun _ => ?_)
  refine lv_aload_n F.1 F.2.1 dX7_init_134 rfl (lv_at hl 1 rfl) ?_
  refine r_getN F I hr_a0 hk_a0 fX7_48 (f := 15) rfl (by decide) dX7_init_135 h (fun b33 hr_b33 hk_b33 h => ?_)
  refine lv_iload_n F.1 F.2.1 dX7_init_138 rfl (lv_at hl 0 rfl) ?_
  refine r_new F I nX7_46 h ⟨Nat.le_of_ble_eq_true rfl, Nat.le_of_ble_eq_true rfl⟩ dX7_init_139 (fun N34 ln S H hr_N32 hk_N32 I h => ?_)
  have hr_a0 := Nat.lt_of_lt_of_le hr_a0 (Nat.le_of_lt hr_N32)
  have hr_b33 := Nat.lt_of_lt_of_le hr_b33 (Nat.le_of_lt hr_N32)
  have hN := Nat.le_trans hN (Nat.le_of_lt hr_N32)
  refine lv_dup F.1 F.2.1 dX7_init_142 rfl ?_
  refine g_XV I (run_NI (As := []) (rest := [.ref (gz g + N32), .int (2 : Int32), .ref (gz g + b33)]) F I kX7_64 (ctX5_init hr_N32 hk_N32 h) ⟨rfl, rfl⟩ ⟨Nat.le_of_ble_eq_true rfl, Nat.le_of_ble_eq_true rfl⟩ rfl hl.1 rfl (Nat.le_of_ble_eq_true rfl) ⟨Nat.le_of_ble_eq_true rfl, Nat.le_of_ble_eq_true rfl⟩ dX7_init_143) (fun N35 ln S H locs hNN I h => ?_)
  have hr_a0 := Nat.lt_of_lt_of_le hr_a0 hNN
  have hr_b33 := Nat.lt_of_lt_of_le hr_b33 hNN
  have hr_N32 := Nat.lt_of_lt_of_le hr_N32 hNN
  have hN := Nat.le_trans hN hNN
  refine r_astN F I hr_b33 hk_b33 (by decide) (f := 5) rfl hr_N32 hk_N32 dX7_init_146 h (fun S H locs I h => ?_)
  refine lv_iinc (v := 3) (lv' := [(1, .int (3 : Int32)), (0, .ref (gz g + a0))]) F.1 F.2.1 dX7_init_147 hl (k := 0) rfl (by decide) (by decide) rfl (fun ls hl => ?_)
  refine lv_goto (tgt := 129) F.1 F.2.1 dX7_init_150 (by decide) ?_
  refine lv_iload_n F.1 F.2.1 dX7_init_129 rfl (lv_at hl 0 rfl) ?_
  refine lv_iconst (v := 5) F.1 F.2.1 dX7_init_130 (by decide) ?_
  refine lv_icmp_ge (tgt := 153) F.1 F.2.1 dX7_init_131 (by decide) (fun q => absurd q (by decide)) (fun _ => ?_)
  refine lv_aload_n F.1 F.2.1 dX7_init_134 rfl (lv_at hl 1 rfl) ?_
  refine r_getN F I hr_a0 hk_a0 fX7_48 (f := 15) rfl (by decide) dX7_init_135 h (fun b36 hr_b36 hk_b36 h => ?_)
  refine lv_iload_n F.1 F.2.1 dX7_init_138 rfl (lv_at hl 0 rfl) ?_
  refine r_new F I nX7_46 h ⟨Nat.le_of_ble_eq_true rfl, Nat.le_of_ble_eq_true rfl⟩ dX7_init_139 (fun N37 ln S H hr_N35 hk_N35 I h => ?_)
  have hr_a0 := Nat.lt_of_lt_of_le hr_a0 (Nat.le_of_lt hr_N35)
  have hr_b36 := Nat.lt_of_lt_of_le hr_b36 (Nat.le_of_lt hr_N35)
  have hN := Nat.le_trans hN (Nat.le_of_lt hr_N35)
  refine lv_dup F.1 F.2.1 dX7_init_142 rfl ?_
  refine g_XV I (run_NI (As := []) (rest := [.ref (gz g + N35), .int (3 : Int32), .ref (gz g + b36)]) F I kX7_64 (ctX5_init hr_N35 hk_N35 h) ⟨rfl, rfl⟩ ⟨Nat.le_of_ble_eq_true rfl, Nat.le_of_ble_eq_true rfl⟩ rfl hl.1 rfl (Nat.le_of_ble_eq_true rfl) ⟨Nat.le_of_ble_eq_true rfl, Nat.le_of_ble_eq_true rfl⟩ dX7_init_143) (fun N38 ln S H locs hNN I h => ?_)
  have hr_a0 := Nat.lt_of_lt_of_le hr_a0 hNN
  have hr_b36 := Nat.lt_of_lt_of_le hr_b36 hNN
  have hr_N35 := Nat.lt_of_lt_of_le hr_N35 hNN
  have hN := Nat.le_trans hN hNN
  refine r_astN F I hr_b36 hk_b36 (by decide) (f := 5) rfl hr_N35 hk_N35 dX7_init_146 h (fun S H locs I h => ?_)
  refine lv_iinc (v := 4) (lv' := [(1, .int (4 : Int32)), (0, .ref (gz g + a0))]) F.1 F.2.1 dX7_init_147 hl (k := 0) rfl (by decide) (by decide) rfl (fun ls hl => ?_)
  refine lv_goto (tgt := 129) F.1 F.2.1 dX7_init_150 (by decide) ?_
  refine lv_iload_n F.1 F.2.1 dX7_init_129 rfl (lv_at hl 0 rfl) ?_
  refine lv_iconst (v := 5) F.1 F.2.1 dX7_init_130 (by decide) ?_
  refine lv_icmp_ge (tgt := 153) F.1 F.2.1 dX7_init_131 (by decide) (fun q => absurd q (by decide)) (fun _ => ?_)
  refine lv_aload_n F.1 F.2.1 dX7_init_134 rfl (lv_at hl 1 rfl) ?_
  refine r_getN F I hr_a0 hk_a0 fX7_48 (f := 15) rfl (by decide) dX7_init_135 h (fun b39 hr_b39 hk_b39 h => ?_)
  refine lv_iload_n F.1 F.2.1 dX7_init_138 rfl (lv_at hl 0 rfl) ?_
  refine r_new F I nX7_46 h ⟨Nat.le_of_ble_eq_true rfl, Nat.le_of_ble_eq_true rfl⟩ dX7_init_139 (fun N40 ln S H hr_N38 hk_N38 I h => ?_)
  have hr_a0 := Nat.lt_of_lt_of_le hr_a0 (Nat.le_of_lt hr_N38)
  have hr_b39 := Nat.lt_of_lt_of_le hr_b39 (Nat.le_of_lt hr_N38)
  have hN := Nat.le_trans hN (Nat.le_of_lt hr_N38)
  refine lv_dup F.1 F.2.1 dX7_init_142 rfl ?_
  refine g_XV I (run_NI (As := []) (rest := [.ref (gz g + N38), .int (4 : Int32), .ref (gz g + b39)]) F I kX7_64 (ctX5_init hr_N38 hk_N38 h) ⟨rfl, rfl⟩ ⟨Nat.le_of_ble_eq_true rfl, Nat.le_of_ble_eq_true rfl⟩ rfl hl.1 rfl (Nat.le_of_ble_eq_true rfl) ⟨Nat.le_of_ble_eq_true rfl, Nat.le_of_ble_eq_true rfl⟩ dX7_init_143) (fun N41 ln S H locs hNN I h => ?_)
  have hr_a0 := Nat.lt_of_lt_of_le hr_a0 hNN
  have hr_b39 := Nat.lt_of_lt_of_le hr_b39 hNN
  have hr_N38 := Nat.lt_of_lt_of_le hr_N38 hNN
  have hN := Nat.le_trans hN hNN
  refine r_astN F I hr_b39 hk_b39 (by decide) (f := 5) rfl hr_N38 hk_N38 dX7_init_146 h (fun S H locs I h => ?_)
  refine lv_iinc (v := 5) (lv' := [(1, .int (5 : Int32)), (0, .ref (gz g + a0))]) F.1 F.2.1 dX7_init_147 hl (k := 0) rfl (by decide) (by decide) rfl (fun ls hl => ?_)
  refine lv_goto (tgt := 129) F.1 F.2.1 dX7_init_150 (by decide) ?_
  refine lv_iload_n F.1 F.2.1 dX7_init_129 rfl (lv_at hl 0 rfl) ?_
  refine lv_iconst (v := 5) F.1 F.2.1 dX7_init_130 (by decide) ?_
  refine lv_icmp_ge (tgt := 153) F.1 F.2.1 dX7_init_131 (by decide) (fun _ => ?_) (fun q => absurd (by decide) q)
  refine W.widen (k := 67) (n := 1306) (Nat.le_of_ble_eq_true rfl) (Nat.le_of_ble_eq_true rfl) ?_
  exact r_vreturnX F I ⟨hr.1, hr.2.1, trivial⟩ hN h dX7_init_153
