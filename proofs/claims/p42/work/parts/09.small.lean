theorem bdX1_leaf_0 : ∀ q ∈ ([(0, .iload_n 0, 1), (28, .iload_n 1, 1), (29, .ireturn, 1), (30, .iload_n 2, 1), (31, .ireturn, 1), (32, .iload_n 3, 1), (33, .ireturn, 1), (34, .iload_n 0, 1), (35, .ireturn, 1)] : List (Nat × Jvm.ClassFile.Instr × Nat)), decode cX1_leaf q.1 = .ok q.2 := chk_ok _ 0 _ rfl (by decide +kernel)
theorem dX1_leaf_0 : decode cX1_leaf 0 = .ok (.iload_n 0, 1) := bdX1_leaf_0 (0, .iload_n 0, 1) (List.mem_of_getElem? (i := 0) rfl)
theorem dX1_leaf_28 : decode cX1_leaf 28 = .ok (.iload_n 1, 1) := bdX1_leaf_0 (28, .iload_n 1, 1) (List.mem_of_getElem? (i := 1) rfl)
theorem dX1_leaf_29 : decode cX1_leaf 29 = .ok (.ireturn, 1) := bdX1_leaf_0 (29, .ireturn, 1) (List.mem_of_getElem? (i := 2) rfl)
theorem dX1_leaf_30 : decode cX1_leaf 30 = .ok (.iload_n 2, 1) := bdX1_leaf_0 (30, .iload_n 2, 1) (List.mem_of_getElem? (i := 3) rfl)
theorem dX1_leaf_31 : decode cX1_leaf 31 = .ok (.ireturn, 1) := bdX1_leaf_0 (31, .ireturn, 1) (List.mem_of_getElem? (i := 4) rfl)
theorem dX1_leaf_32 : decode cX1_leaf 32 = .ok (.iload_n 3, 1) := bdX1_leaf_0 (32, .iload_n 3, 1) (List.mem_of_getElem? (i := 5) rfl)
theorem dX1_leaf_33 : decode cX1_leaf 33 = .ok (.ireturn, 1) := bdX1_leaf_0 (33, .ireturn, 1) (List.mem_of_getElem? (i := 6) rfl)
theorem dX1_leaf_34 : decode cX1_leaf 34 = .ok (.iload_n 0, 1) := bdX1_leaf_0 (34, .iload_n 0, 1) (List.mem_of_getElem? (i := 7) rfl)
theorem dX1_leaf_35 : decode cX1_leaf 35 = .ok (.ireturn, 1) := bdX1_leaf_0 (35, .ireturn, 1) (List.mem_of_getElem? (i := 8) rfl)
theorem dX1_leaf_1 : decode cX1_leaf 1 = .ok (.tableswitch 33 10000 10002 #[27, 29, 31], 27) := by decide +kernel
def wpX1_leaf (ln : Nat → Nat) (S : HC) (a0 : Int32) (a1 : Int32) (a2 : Int32) (a3 : Int32) (post : Int32 → HC → Prop) : Prop := if a0 = (10000 : Int32) then (post a1 S) else if a0 = (10001 : Int32) then (post a2 S) else if a0 = (10002 : Int32) then (post a3 S) else post a0 S
abbrev rmX1_leaf : Room := { frames := 0, cells := 0, slots := 0, locals := 0 }
set_option maxHeartbeats 4000000 in
set_option maxRecDepth 100000 in
theorem ctX1_leaf {l : Launch} {g : GX} {N : Nat} {ln : Nat → Nat} {S : HC} {a0 : Int32} {a1 : Int32} {a2 : Int32} {a3 : Int32} {post : Int32 → HC → Prop} (h : wpX1_leaf ln S a0 a1 a2 a3 post) : Met l yX1_leaf (Cond.code yX1_leaf prog_3_method_3_code 4 (Option.some Jvm.ClassFile.FieldType.int) :: gtbl) rmX1_leaf (va_Pc [.int a0, .int a1, .int a2, .int a3] (AtP g N ln S)) (QI g N ln post) 0 0 (gF g) := by
  refine m_of (by decide) (Nat.le_of_ble_eq_true rfl) ?_
  intro p e s m below meth c ls F hr I hl
  have hl : lv_has ls 4 [(0, .int a0), (1, .int a1), (2, .int a2), (3, .int a3)] := hl
  unfold wpX1_leaf at h
  refine lv_iload_n F.1 F.2.1 dX1_leaf_0 rfl (lv_at hl 0 rfl) ?_
  by_cases c0 : a0 = (10000 : Int32)
  · rw [if_pos c0] at h
    refine lv_tableIn (off := 27) (tgt := 28) F.1 F.2.1 dX1_leaf_1 (by rw [c0]; decide) (by rw [c0]; decide) (by rw [c0]; rfl) (by decide) ?_
    refine lv_iload_n F.1 F.2.1 dX1_leaf_28 rfl (lv_at hl 1 rfl) ?_
    exact r_ireturn F I ⟨hr.1, hr.2.1, trivial⟩ h dX1_leaf_29
  · rw [if_neg c0] at h
    by_cases c1 : a0 = (10001 : Int32)
    · rw [if_pos c1] at h
      refine lv_tableIn (off := 29) (tgt := 30) F.1 F.2.1 dX1_leaf_1 (by rw [c1]; decide) (by rw [c1]; decide) (by rw [c1]; rfl) (by decide) ?_
      refine lv_iload_n F.1 F.2.1 dX1_leaf_30 rfl (lv_at hl 2 rfl) ?_
      exact r_ireturn F I ⟨hr.1, hr.2.1, trivial⟩ h dX1_leaf_31
    · rw [if_neg c1] at h
      by_cases c2 : a0 = (10002 : Int32)
      · rw [if_pos c2] at h
        refine lv_tableIn (off := 31) (tgt := 32) F.1 F.2.1 dX1_leaf_1 (by rw [c2]; decide) (by rw [c2]; decide) (by rw [c2]; rfl) (by decide) ?_
        refine lv_iload_n F.1 F.2.1 dX1_leaf_32 rfl (lv_at hl 3 rfl) ?_
        exact r_ireturn F I ⟨hr.1, hr.2.1, trivial⟩ h dX1_leaf_33
      · rw [if_neg c2] at h
        have e0 := lv_neT (a := 10000) c0 (by decide)
        have e1 := lv_neT (a := 10001) c1 (by decide)
        have e2 := lv_neT (a := 10002) c2 (by decide)
        refine lv_tableOut (tgt := 34) F.1 F.2.1 dX1_leaf_1 (by omega) (by decide) ?_
        refine lv_iload_n F.1 F.2.1 dX1_leaf_34 rfl (lv_at hl 0 rfl) ?_
        exact r_ireturn F I ⟨hr.1, hr.2.1, trivial⟩ h dX1_leaf_35
theorem bdX1_work_0 : ∀ q ∈ ([(0, .iload_n 0, 1), (76, .iload_n 1, 1), (77, .ifCond .ne 7, 3), (80, .iload_n 2, 1), (81, .ifCond .eq 7, 3), (84, .iconst 1, 1), (85, .goto 4, 3), (88, .iconst 0, 1), (89, .ireturn, 1), (90, .iload_n 1, 1), (91, .ifCond .eq 11, 3), (94, .iload_n 2, 1), (95, .ifCond .eq 7, 3), (98, .iconst 1, 1), (99, .goto 4, 3), (102, .iconst 0, 1), (103, .ireturn, 1), (104, .iload_n 1, 1), (105, .iload_n 2, 1), (106, .if_icmp .ge 7, 3), (109, .iconst 1, 1), (110, .goto 4, 3), (113, .iconst 0, 1), (114, .ireturn, 1), (115, .iload_n 1, 1), (116, .iload_n 2, 1), (117, .if_icmp .ne 7, 3), (120, .iconst 1, 1), (121, .goto 4, 3), (124, .iconst 0, 1), (125, .ireturn, 1), (126, .iload_n 1, 1), (127, .iload_n 2, 1), (128, .if_icmp .le 7, 3), (131, .iconst 1, 1), (132, .goto 4, 3), (135, .iconst 0, 1), (136, .ireturn, 1), (137, .iload_n 1, 1), (138, .iload_n 2, 1)] : List (Nat × Jvm.ClassFile.Instr × Nat)), decode cX1_work q.1 = .ok q.2 := chk_ok _ 0 _ rfl (by decide +kernel)
theorem dX1_work_0 : decode cX1_work 0 = .ok (.iload_n 0, 1) := bdX1_work_0 (0, .iload_n 0, 1) (List.mem_of_getElem? (i := 0) rfl)
theorem dX1_work_76 : decode cX1_work 76 = .ok (.iload_n 1, 1) := bdX1_work_0 (76, .iload_n 1, 1) (List.mem_of_getElem? (i := 1) rfl)
theorem dX1_work_77 : decode cX1_work 77 = .ok (.ifCond .ne 7, 3) := bdX1_work_0 (77, .ifCond .ne 7, 3) (List.mem_of_getElem? (i := 2) rfl)
theorem dX1_work_80 : decode cX1_work 80 = .ok (.iload_n 2, 1) := bdX1_work_0 (80, .iload_n 2, 1) (List.mem_of_getElem? (i := 3) rfl)
theorem dX1_work_81 : decode cX1_work 81 = .ok (.ifCond .eq 7, 3) := bdX1_work_0 (81, .ifCond .eq 7, 3) (List.mem_of_getElem? (i := 4) rfl)
theorem dX1_work_84 : decode cX1_work 84 = .ok (.iconst 1, 1) := bdX1_work_0 (84, .iconst 1, 1) (List.mem_of_getElem? (i := 5) rfl)
theorem dX1_work_85 : decode cX1_work 85 = .ok (.goto 4, 3) := bdX1_work_0 (85, .goto 4, 3) (List.mem_of_getElem? (i := 6) rfl)
theorem dX1_work_88 : decode cX1_work 88 = .ok (.iconst 0, 1) := bdX1_work_0 (88, .iconst 0, 1) (List.mem_of_getElem? (i := 7) rfl)
theorem dX1_work_89 : decode cX1_work 89 = .ok (.ireturn, 1) := bdX1_work_0 (89, .ireturn, 1) (List.mem_of_getElem? (i := 8) rfl)
theorem dX1_work_90 : decode cX1_work 90 = .ok (.iload_n 1, 1) := bdX1_work_0 (90, .iload_n 1, 1) (List.mem_of_getElem? (i := 9) rfl)
theorem dX1_work_91 : decode cX1_work 91 = .ok (.ifCond .eq 11, 3) := bdX1_work_0 (91, .ifCond .eq 11, 3) (List.mem_of_getElem? (i := 10) rfl)
theorem dX1_work_94 : decode cX1_work 94 = .ok (.iload_n 2, 1) := bdX1_work_0 (94, .iload_n 2, 1) (List.mem_of_getElem? (i := 11) rfl)
theorem dX1_work_95 : decode cX1_work 95 = .ok (.ifCond .eq 7, 3) := bdX1_work_0 (95, .ifCond .eq 7, 3) (List.mem_of_getElem? (i := 12) rfl)
theorem dX1_work_98 : decode cX1_work 98 = .ok (.iconst 1, 1) := bdX1_work_0 (98, .iconst 1, 1) (List.mem_of_getElem? (i := 13) rfl)
theorem dX1_work_99 : decode cX1_work 99 = .ok (.goto 4, 3) := bdX1_work_0 (99, .goto 4, 3) (List.mem_of_getElem? (i := 14) rfl)
theorem dX1_work_102 : decode cX1_work 102 = .ok (.iconst 0, 1) := bdX1_work_0 (102, .iconst 0, 1) (List.mem_of_getElem? (i := 15) rfl)
theorem dX1_work_103 : decode cX1_work 103 = .ok (.ireturn, 1) := bdX1_work_0 (103, .ireturn, 1) (List.mem_of_getElem? (i := 16) rfl)
theorem dX1_work_104 : decode cX1_work 104 = .ok (.iload_n 1, 1) := bdX1_work_0 (104, .iload_n 1, 1) (List.mem_of_getElem? (i := 17) rfl)
theorem dX1_work_105 : decode cX1_work 105 = .ok (.iload_n 2, 1) := bdX1_work_0 (105, .iload_n 2, 1) (List.mem_of_getElem? (i := 18) rfl)
theorem dX1_work_106 : decode cX1_work 106 = .ok (.if_icmp .ge 7, 3) := bdX1_work_0 (106, .if_icmp .ge 7, 3) (List.mem_of_getElem? (i := 19) rfl)
theorem dX1_work_109 : decode cX1_work 109 = .ok (.iconst 1, 1) := bdX1_work_0 (109, .iconst 1, 1) (List.mem_of_getElem? (i := 20) rfl)
theorem dX1_work_110 : decode cX1_work 110 = .ok (.goto 4, 3) := bdX1_work_0 (110, .goto 4, 3) (List.mem_of_getElem? (i := 21) rfl)
theorem dX1_work_113 : decode cX1_work 113 = .ok (.iconst 0, 1) := bdX1_work_0 (113, .iconst 0, 1) (List.mem_of_getElem? (i := 22) rfl)
theorem dX1_work_114 : decode cX1_work 114 = .ok (.ireturn, 1) := bdX1_work_0 (114, .ireturn, 1) (List.mem_of_getElem? (i := 23) rfl)
theorem dX1_work_115 : decode cX1_work 115 = .ok (.iload_n 1, 1) := bdX1_work_0 (115, .iload_n 1, 1) (List.mem_of_getElem? (i := 24) rfl)
theorem dX1_work_116 : decode cX1_work 116 = .ok (.iload_n 2, 1) := bdX1_work_0 (116, .iload_n 2, 1) (List.mem_of_getElem? (i := 25) rfl)
theorem dX1_work_117 : decode cX1_work 117 = .ok (.if_icmp .ne 7, 3) := bdX1_work_0 (117, .if_icmp .ne 7, 3) (List.mem_of_getElem? (i := 26) rfl)
theorem dX1_work_120 : decode cX1_work 120 = .ok (.iconst 1, 1) := bdX1_work_0 (120, .iconst 1, 1) (List.mem_of_getElem? (i := 27) rfl)
theorem dX1_work_121 : decode cX1_work 121 = .ok (.goto 4, 3) := bdX1_work_0 (121, .goto 4, 3) (List.mem_of_getElem? (i := 28) rfl)
theorem dX1_work_124 : decode cX1_work 124 = .ok (.iconst 0, 1) := bdX1_work_0 (124, .iconst 0, 1) (List.mem_of_getElem? (i := 29) rfl)
theorem dX1_work_125 : decode cX1_work 125 = .ok (.ireturn, 1) := bdX1_work_0 (125, .ireturn, 1) (List.mem_of_getElem? (i := 30) rfl)
theorem dX1_work_126 : decode cX1_work 126 = .ok (.iload_n 1, 1) := bdX1_work_0 (126, .iload_n 1, 1) (List.mem_of_getElem? (i := 31) rfl)
theorem dX1_work_127 : decode cX1_work 127 = .ok (.iload_n 2, 1) := bdX1_work_0 (127, .iload_n 2, 1) (List.mem_of_getElem? (i := 32) rfl)
theorem dX1_work_128 : decode cX1_work 128 = .ok (.if_icmp .le 7, 3) := bdX1_work_0 (128, .if_icmp .le 7, 3) (List.mem_of_getElem? (i := 33) rfl)
theorem dX1_work_131 : decode cX1_work 131 = .ok (.iconst 1, 1) := bdX1_work_0 (131, .iconst 1, 1) (List.mem_of_getElem? (i := 34) rfl)
theorem dX1_work_132 : decode cX1_work 132 = .ok (.goto 4, 3) := bdX1_work_0 (132, .goto 4, 3) (List.mem_of_getElem? (i := 35) rfl)
theorem dX1_work_135 : decode cX1_work 135 = .ok (.iconst 0, 1) := bdX1_work_0 (135, .iconst 0, 1) (List.mem_of_getElem? (i := 36) rfl)
theorem dX1_work_136 : decode cX1_work 136 = .ok (.ireturn, 1) := bdX1_work_0 (136, .ireturn, 1) (List.mem_of_getElem? (i := 37) rfl)
theorem dX1_work_137 : decode cX1_work 137 = .ok (.iload_n 1, 1) := bdX1_work_0 (137, .iload_n 1, 1) (List.mem_of_getElem? (i := 38) rfl)
theorem dX1_work_138 : decode cX1_work 138 = .ok (.iload_n 2, 1) := bdX1_work_0 (138, .iload_n 2, 1) (List.mem_of_getElem? (i := 39) rfl)
theorem bdX1_work_139 : ∀ q ∈ ([(139, .iadd, 1), (140, .ireturn, 1), (141, .iload_n 1, 1), (142, .iload_n 2, 1), (143, .isub, 1), (144, .ireturn, 1), (145, .iload_n 1, 1), (146, .iload_n 2, 1), (147, .imul, 1), (148, .ireturn, 1), (149, .iload_n 2, 1), (150, .ifCond .ne 7, 3), (153, .iconst 0, 1), (154, .goto 6, 3), (157, .iload_n 1, 1), (158, .iload_n 2, 1), (160, .ireturn, 1)] : List (Nat × Jvm.ClassFile.Instr × Nat)), decode cX1_work q.1 = .ok q.2 := chk_ok _ 139 _ rfl (by decide +kernel)
theorem dX1_work_139 : decode cX1_work 139 = .ok (.iadd, 1) := bdX1_work_139 (139, .iadd, 1) (List.mem_of_getElem? (i := 0) rfl)
theorem dX1_work_140 : decode cX1_work 140 = .ok (.ireturn, 1) := bdX1_work_139 (140, .ireturn, 1) (List.mem_of_getElem? (i := 1) rfl)
theorem dX1_work_141 : decode cX1_work 141 = .ok (.iload_n 1, 1) := bdX1_work_139 (141, .iload_n 1, 1) (List.mem_of_getElem? (i := 2) rfl)
theorem dX1_work_142 : decode cX1_work 142 = .ok (.iload_n 2, 1) := bdX1_work_139 (142, .iload_n 2, 1) (List.mem_of_getElem? (i := 3) rfl)
theorem dX1_work_143 : decode cX1_work 143 = .ok (.isub, 1) := bdX1_work_139 (143, .isub, 1) (List.mem_of_getElem? (i := 4) rfl)
theorem dX1_work_144 : decode cX1_work 144 = .ok (.ireturn, 1) := bdX1_work_139 (144, .ireturn, 1) (List.mem_of_getElem? (i := 5) rfl)
theorem dX1_work_145 : decode cX1_work 145 = .ok (.iload_n 1, 1) := bdX1_work_139 (145, .iload_n 1, 1) (List.mem_of_getElem? (i := 6) rfl)
theorem dX1_work_146 : decode cX1_work 146 = .ok (.iload_n 2, 1) := bdX1_work_139 (146, .iload_n 2, 1) (List.mem_of_getElem? (i := 7) rfl)
theorem dX1_work_147 : decode cX1_work 147 = .ok (.imul, 1) := bdX1_work_139 (147, .imul, 1) (List.mem_of_getElem? (i := 8) rfl)
theorem dX1_work_148 : decode cX1_work 148 = .ok (.ireturn, 1) := bdX1_work_139 (148, .ireturn, 1) (List.mem_of_getElem? (i := 9) rfl)
theorem dX1_work_149 : decode cX1_work 149 = .ok (.iload_n 2, 1) := bdX1_work_139 (149, .iload_n 2, 1) (List.mem_of_getElem? (i := 10) rfl)
theorem dX1_work_150 : decode cX1_work 150 = .ok (.ifCond .ne 7, 3) := bdX1_work_139 (150, .ifCond .ne 7, 3) (List.mem_of_getElem? (i := 11) rfl)
theorem dX1_work_153 : decode cX1_work 153 = .ok (.iconst 0, 1) := bdX1_work_139 (153, .iconst 0, 1) (List.mem_of_getElem? (i := 12) rfl)
theorem dX1_work_154 : decode cX1_work 154 = .ok (.goto 6, 3) := bdX1_work_139 (154, .goto 6, 3) (List.mem_of_getElem? (i := 13) rfl)
theorem dX1_work_157 : decode cX1_work 157 = .ok (.iload_n 1, 1) := bdX1_work_139 (157, .iload_n 1, 1) (List.mem_of_getElem? (i := 14) rfl)
theorem dX1_work_158 : decode cX1_work 158 = .ok (.iload_n 2, 1) := bdX1_work_139 (158, .iload_n 2, 1) (List.mem_of_getElem? (i := 15) rfl)
theorem dX1_work_160 : decode cX1_work 160 = .ok (.ireturn, 1) := bdX1_work_139 (160, .ireturn, 1) (List.mem_of_getElem? (i := 16) rfl)
theorem dX1_work_1 : decode cX1_work 1 = .ok (.lookupswitch 148 #[(38, 89), (42, 144), (43, 136), (45, 140), (60, 103), (61, 114), (62, 125), (124, 75)], 75) := by decide +kernel
theorem dX1_work_159 : decode cX1_work 159 = .ok (.idiv, 1) := by decide +kernel
def BX1_work_102 (ln : Nat → Nat) (post : Int32 → HC → Prop) (S : HC)  : Prop := post (0 : Int32) S
def BX1_work_84 (ln : Nat → Nat) (post : Int32 → HC → Prop) (S : HC)  : Prop := post (1 : Int32) S
def wpX1_work (ln : Nat → Nat) (S : HC) (a0 : Int32) (a1 : Int32) (a2 : Int32) (post : Int32 → HC → Prop) : Prop := if a0 = (38 : Int32) then (if a1 = 0 then (BX1_work_102 ln post S) else (if a2 = 0 then (BX1_work_102 ln post S) else (post (1 : Int32) S))) else if a0 = (42 : Int32) then (lt_ (a1 * a2) fun z2 => post z2 S) else if a0 = (43 : Int32) then (lt_ (a1 + a2) fun z3 => post z3 S) else if a0 = (45 : Int32) then (lt_ (a1 - a2) fun z4 => post z4 S) else if a0 = (60 : Int32) then (if a2 ≤ a1 then (post (0 : Int32) S) else (post (1 : Int32) S)) else if a0 = (61 : Int32) then (if a1 = a2 then (post (1 : Int32) S) else (post (0 : Int32) S)) else if a0 = (62 : Int32) then (if a1 ≤ a2 then (post (0 : Int32) S) else (post (1 : Int32) S)) else if a0 = (124 : Int32) then (if a1 = 0 then (if a2 = 0 then (post (0 : Int32) S) else (BX1_work_84 ln post S)) else (BX1_work_84 ln post S)) else if a2 = 0 then (post (0 : Int32) S) else (ne_ a2 <| lt_ (a1 / a2) fun z1 => post z1 S)
abbrev rmX1_work : Room := { frames := 0, cells := 0, slots := 0, locals := 0 }
set_option maxHeartbeats 4000000 in
set_option maxRecDepth 100000 in
theorem ctX1_work {l : Launch} {g : GX} {N : Nat} {ln : Nat → Nat} {S : HC} {a0 : Int32} {a1 : Int32} {a2 : Int32} {post : Int32 → HC → Prop} (h : wpX1_work ln S a0 a1 a2 post) : Met l yX1_work (Cond.code yX1_work prog_3_method_4_code 3 (Option.some Jvm.ClassFile.FieldType.int) :: gtbl) rmX1_work (va_Pc [.int a0, .int a1, .int a2] (AtP g N ln S)) (QI g N ln post) 0 0 (gF g) := by
  refine m_of (by decide) (Nat.le_of_ble_eq_true rfl) ?_
  intro p e s m below meth c ls F hr I hl
  have hl : lv_has ls 3 [(0, .int a0), (1, .int a1), (2, .int a2)] := hl
  unfold wpX1_work at h
  have hj_102 : ∀ (S : HC) (H : Heap) (locs : List Loc) (ls : Array Slot), BX1_work_102 ln post S  → Inv g N ln S s H locs → lv_has ls 3 [] → W p l e rmX1_work s m ([.int a0, .int a1, .int a2] : List Value).toArray below meth c H locs 0 0 (MQ below (QI g N ln post) ([.int a0, .int a1, .int a2] : List Value).toArray s 0 0 (gF g)) (F0 m 102 ls []) := by
    intro S H locs ls h I hl
    unfold BX1_work_102 at h
    refine lv_iconst (v := 0) F.1 F.2.1 dX1_work_102 (by decide) ?_
    exact r_ireturn F I ⟨hr.1, hr.2.1, trivial⟩ h dX1_work_103
  have hj_84 : ∀ (S : HC) (H : Heap) (locs : List Loc) (ls : Array Slot), BX1_work_84 ln post S  → Inv g N ln S s H locs → lv_has ls 3 [] → W p l e rmX1_work s m ([.int a0, .int a1, .int a2] : List Value).toArray below meth c H locs 0 0 (MQ below (QI g N ln post) ([.int a0, .int a1, .int a2] : List Value).toArray s 0 0 (gF g)) (F0 m 84 ls []) := by
    intro S H locs ls h I hl
    unfold BX1_work_84 at h
    refine lv_iconst (v := 1) F.1 F.2.1 dX1_work_84 (by decide) ?_
    refine lv_goto (tgt := 89) F.1 F.2.1 dX1_work_85 (by decide) ?_
    exact r_ireturn F I ⟨hr.1, hr.2.1, trivial⟩ h dX1_work_89
  refine lv_iload_n F.1 F.2.1 dX1_work_0 rfl (lv_at hl 0 rfl) ?_
  by_cases c0 : a0 = (38 : Int32)
  · rw [if_pos c0] at h
    refine lv_lookup (off := 89) (tgt := 90) F.1 F.2.1 dX1_work_1 (by decide) (by rw [c0]; rfl) (by decide) ?_
    refine lv_iload_n F.1 F.2.1 dX1_work_90 rfl (lv_at hl 1 rfl) ?_
    refine r_if_eq (tgt := 102) F dX1_work_91 (by decide) h (fun h => ?_) (fun h => ?_)
    · exact hj_102 S _ _ _   h I (lv_sub hl [] rfl)
    · refine lv_iload_n F.1 F.2.1 dX1_work_94 rfl (lv_at hl 2 rfl) ?_
      refine r_if_eq (tgt := 102) F dX1_work_95 (by decide) h (fun h => ?_) (fun h => ?_)
      · exact hj_102 S _ _ _   h I (lv_sub hl [] rfl)
      · refine lv_iconst (v := 1) F.1 F.2.1 dX1_work_98 (by decide) ?_
        refine lv_goto (tgt := 103) F.1 F.2.1 dX1_work_99 (by decide) ?_
        exact r_ireturn F I ⟨hr.1, hr.2.1, trivial⟩ h dX1_work_103
  · rw [if_neg c0] at h
    by_cases c1 : a0 = (42 : Int32)
    · rw [if_pos c1] at h
      refine lv_lookup (off := 144) (tgt := 145) F.1 F.2.1 dX1_work_1 (by decide) (by rw [c1]; rfl) (by decide) ?_
      refine lv_iload_n F.1 F.2.1 dX1_work_145 rfl (lv_at hl 1 rfl) ?_
      refine lv_iload_n F.1 F.2.1 dX1_work_146 rfl (lv_at hl 2 rfl) ?_
      refine r_imul F dX1_work_147 h (fun z2 h => ?_)
      exact r_ireturn F I ⟨hr.1, hr.2.1, trivial⟩ h dX1_work_148
    · rw [if_neg c1] at h
      by_cases c2 : a0 = (43 : Int32)
      · rw [if_pos c2] at h
        refine lv_lookup (off := 136) (tgt := 137) F.1 F.2.1 dX1_work_1 (by decide) (by rw [c2]; rfl) (by decide) ?_
        refine lv_iload_n F.1 F.2.1 dX1_work_137 rfl (lv_at hl 1 rfl) ?_
        refine lv_iload_n F.1 F.2.1 dX1_work_138 rfl (lv_at hl 2 rfl) ?_
        refine r_iadd F dX1_work_139 h (fun z3 h => ?_)
        exact r_ireturn F I ⟨hr.1, hr.2.1, trivial⟩ h dX1_work_140
      · rw [if_neg c2] at h
        by_cases c3 : a0 = (45 : Int32)
        · rw [if_pos c3] at h
          refine lv_lookup (off := 140) (tgt := 141) F.1 F.2.1 dX1_work_1 (by decide) (by rw [c3]; rfl) (by decide) ?_
          refine lv_iload_n F.1 F.2.1 dX1_work_141 rfl (lv_at hl 1 rfl) ?_
          refine lv_iload_n F.1 F.2.1 dX1_work_142 rfl (lv_at hl 2 rfl) ?_
          refine r_isub F dX1_work_143 h (fun z4 h => ?_)
          exact r_ireturn F I ⟨hr.1, hr.2.1, trivial⟩ h dX1_work_144
        · rw [if_neg c3] at h
          by_cases c4 : a0 = (60 : Int32)
          · rw [if_pos c4] at h
            refine lv_lookup (off := 103) (tgt := 104) F.1 F.2.1 dX1_work_1 (by decide) (by rw [c4]; rfl) (by decide) ?_
            refine lv_iload_n F.1 F.2.1 dX1_work_104 rfl (lv_at hl 1 rfl) ?_
            refine lv_iload_n F.1 F.2.1 dX1_work_105 rfl (lv_at hl 2 rfl) ?_
            refine r_icmp_ge (tgt := 113) F dX1_work_106 (by decide) h (fun h => ?_) (fun h => ?_)
            · refine lv_iconst (v := 0) F.1 F.2.1 dX1_work_113 (by decide) ?_
              exact r_ireturn F I ⟨hr.1, hr.2.1, trivial⟩ h dX1_work_114
            · refine lv_iconst (v := 1) F.1 F.2.1 dX1_work_109 (by decide) ?_
              refine lv_goto (tgt := 114) F.1 F.2.1 dX1_work_110 (by decide) ?_
              exact r_ireturn F I ⟨hr.1, hr.2.1, trivial⟩ h dX1_work_114
          · rw [if_neg c4] at h
            by_cases c5 : a0 = (61 : Int32)
            · rw [if_pos c5] at h
              refine lv_lookup (off := 114) (tgt := 115) F.1 F.2.1 dX1_work_1 (by decide) (by rw [c5]; rfl) (by decide) ?_
              refine lv_iload_n F.1 F.2.1 dX1_work_115 rfl (lv_at hl 1 rfl) ?_
              refine lv_iload_n F.1 F.2.1 dX1_work_116 rfl (lv_at hl 2 rfl) ?_
              refine r_icmp_ne (tgt := 124) F dX1_work_117 (by decide) h (fun h => ?_) (fun h => ?_)
              · refine lv_iconst (v := 0) F.1 F.2.1 dX1_work_124 (by decide) ?_
                exact r_ireturn F I ⟨hr.1, hr.2.1, trivial⟩ h dX1_work_125
              · refine lv_iconst (v := 1) F.1 F.2.1 dX1_work_120 (by decide) ?_
                refine lv_goto (tgt := 125) F.1 F.2.1 dX1_work_121 (by decide) ?_
                exact r_ireturn F I ⟨hr.1, hr.2.1, trivial⟩ h dX1_work_125
            · rw [if_neg c5] at h
              by_cases c6 : a0 = (62 : Int32)
              · rw [if_pos c6] at h
                refine lv_lookup (off := 125) (tgt := 126) F.1 F.2.1 dX1_work_1 (by decide) (by rw [c6]; rfl) (by decide) ?_
                refine lv_iload_n F.1 F.2.1 dX1_work_126 rfl (lv_at hl 1 rfl) ?_
                refine lv_iload_n F.1 F.2.1 dX1_work_127 rfl (lv_at hl 2 rfl) ?_
                refine r_icmp_le (tgt := 135) F dX1_work_128 (by decide) h (fun h => ?_) (fun h => ?_)
                · refine lv_iconst (v := 0) F.1 F.2.1 dX1_work_135 (by decide) ?_
                  exact r_ireturn F I ⟨hr.1, hr.2.1, trivial⟩ h dX1_work_136
                · refine lv_iconst (v := 1) F.1 F.2.1 dX1_work_131 (by decide) ?_
                  refine lv_goto (tgt := 136) F.1 F.2.1 dX1_work_132 (by decide) ?_
                  exact r_ireturn F I ⟨hr.1, hr.2.1, trivial⟩ h dX1_work_136
              · rw [if_neg c6] at h
                by_cases c7 : a0 = (124 : Int32)
                · rw [if_pos c7] at h
                  refine lv_lookup (off := 75) (tgt := 76) F.1 F.2.1 dX1_work_1 (by decide) (by rw [c7]; rfl) (by decide) ?_
                  refine lv_iload_n F.1 F.2.1 dX1_work_76 rfl (lv_at hl 1 rfl) ?_
                  refine r_if_ne (tgt := 84) F dX1_work_77 (by decide) h (fun h => ?_) (fun h => ?_)
                  · exact hj_84 S _ _ _   h I (lv_sub hl [] rfl)
                  · refine lv_iload_n F.1 F.2.1 dX1_work_80 rfl (lv_at hl 2 rfl) ?_
                    refine r_if_eq (tgt := 88) F dX1_work_81 (by decide) h (fun h => ?_) (fun h => ?_)
                    · refine lv_iconst (v := 0) F.1 F.2.1 dX1_work_88 (by decide) ?_
                      exact r_ireturn F I ⟨hr.1, hr.2.1, trivial⟩ h dX1_work_89
                    · exact hj_84 S _ _ _   h I (lv_sub hl [] rfl)
                · rw [if_neg c7] at h
                  refine lv_lookup (off := 148) (tgt := 149) F.1 F.2.1 dX1_work_1 (by decide) (by show Op.lookupswitch.offset [(38, 89), (42, 144), (43, 136), (45, 140), (60, 103), (61, 114), (62, 125), (124, 75)] (148) _ = _; rw [lv_osw c0 (by decide), lv_osw c1 (by decide), lv_osw c2 (by decide), lv_osw c3 (by decide), lv_osw c4 (by decide), lv_osw c5 (by decide), lv_osw c6 (by decide), lv_osw c7 (by decide)]; rfl) (by decide) ?_
                  refine lv_iload_n F.1 F.2.1 dX1_work_149 rfl (lv_at hl 2 rfl) ?_
                  refine r_if_ne (tgt := 157) F dX1_work_150 (by decide) h (fun h => ?_) (fun h => ?_)
                  · refine lv_iload_n F.1 F.2.1 dX1_work_157 rfl (lv_at hl 1 rfl) ?_
                    refine lv_iload_n F.1 F.2.1 dX1_work_158 rfl (lv_at hl 2 rfl) ?_
                    refine r_idiv F dX1_work_159 h (fun z1 h => ?_)
                    exact r_ireturn F I ⟨hr.1, hr.2.1, trivial⟩ h dX1_work_160
                  · refine lv_iconst (v := 0) F.1 F.2.1 dX1_work_153 (by decide) ?_
                    refine lv_goto (tgt := 160) F.1 F.2.1 dX1_work_154 (by decide) ?_
                    exact r_ireturn F I ⟨hr.1, hr.2.1, trivial⟩ h dX1_work_160
theorem bdX1_give_0 : ∀ q ∈ ([(0, .iconst 0, 1), (1, .istore 5, 2), (3, .iconst 0, 1), (4, .istore 6, 2), (6, .iload 6, 2), (8, .aload_n 0, 1), (9, .getfield 16, 3), (13, .if_icmp .ge 129, 3), (16, .aload_n 0, 1), (17, .getfield 16, 3), (20, .iload 6, 2), (22, .iaload, 1), (23, .istore 7, 2), (25, .iload 7, 2), (27, .sipush 20000, 3), (30, .if_icmp .ge 30, 3), (33, .iload 5, 2), (35, .aload 4, 2), (38, .if_icmp .ge 98, 3), (41, .aload 4, 2), (43, .iload 5, 2), (45, .iload 7, 2), (47, .iload_n 1, 1), (48, .iload_n 2, 1), (49, .iload_n 3, 1), (50, .invokestatic 20, 3), (53, .iastore, 1), (54, .iinc 5 1, 3), (57, .goto 79, 3), (60, .iload 7, 2), (62, .sipush 20033, 3), (65, .if_icmp .ne 34, 3), (68, .iload 5, 2), (70, .iconst 1, 1), (71, .if_icmp .lt 65, 3), (74, .aload 4, 2), (76, .iload 5, 2), (78, .iconst 1, 1), (79, .isub, 1), (80, .aload 4, 2)] : List (Nat × Jvm.ClassFile.Instr × Nat)), decode cX1_give q.1 = .ok q.2 := chk_ok _ 0 _ rfl (by decide +kernel)
theorem dX1_give_0 : decode cX1_give 0 = .ok (.iconst 0, 1) := bdX1_give_0 (0, .iconst 0, 1) (List.mem_of_getElem? (i := 0) rfl)
theorem dX1_give_1 : decode cX1_give 1 = .ok (.istore 5, 2) := bdX1_give_0 (1, .istore 5, 2) (List.mem_of_getElem? (i := 1) rfl)
theorem dX1_give_3 : decode cX1_give 3 = .ok (.iconst 0, 1) := bdX1_give_0 (3, .iconst 0, 1) (List.mem_of_getElem? (i := 2) rfl)
theorem dX1_give_4 : decode cX1_give 4 = .ok (.istore 6, 2) := bdX1_give_0 (4, .istore 6, 2) (List.mem_of_getElem? (i := 3) rfl)
theorem dX1_give_6 : decode cX1_give 6 = .ok (.iload 6, 2) := bdX1_give_0 (6, .iload 6, 2) (List.mem_of_getElem? (i := 4) rfl)
theorem dX1_give_8 : decode cX1_give 8 = .ok (.aload_n 0, 1) := bdX1_give_0 (8, .aload_n 0, 1) (List.mem_of_getElem? (i := 5) rfl)
theorem dX1_give_9 : decode cX1_give 9 = .ok (.getfield 16, 3) := bdX1_give_0 (9, .getfield 16, 3) (List.mem_of_getElem? (i := 6) rfl)
theorem dX1_give_13 : decode cX1_give 13 = .ok (.if_icmp .ge 129, 3) := bdX1_give_0 (13, .if_icmp .ge 129, 3) (List.mem_of_getElem? (i := 7) rfl)
theorem dX1_give_16 : decode cX1_give 16 = .ok (.aload_n 0, 1) := bdX1_give_0 (16, .aload_n 0, 1) (List.mem_of_getElem? (i := 8) rfl)
theorem dX1_give_17 : decode cX1_give 17 = .ok (.getfield 16, 3) := bdX1_give_0 (17, .getfield 16, 3) (List.mem_of_getElem? (i := 9) rfl)
theorem dX1_give_20 : decode cX1_give 20 = .ok (.iload 6, 2) := bdX1_give_0 (20, .iload 6, 2) (List.mem_of_getElem? (i := 10) rfl)
theorem dX1_give_22 : decode cX1_give 22 = .ok (.iaload, 1) := bdX1_give_0 (22, .iaload, 1) (List.mem_of_getElem? (i := 11) rfl)
theorem dX1_give_23 : decode cX1_give 23 = .ok (.istore 7, 2) := bdX1_give_0 (23, .istore 7, 2) (List.mem_of_getElem? (i := 12) rfl)
theorem dX1_give_25 : decode cX1_give 25 = .ok (.iload 7, 2) := bdX1_give_0 (25, .iload 7, 2) (List.mem_of_getElem? (i := 13) rfl)
theorem dX1_give_27 : decode cX1_give 27 = .ok (.sipush 20000, 3) := bdX1_give_0 (27, .sipush 20000, 3) (List.mem_of_getElem? (i := 14) rfl)
theorem dX1_give_30 : decode cX1_give 30 = .ok (.if_icmp .ge 30, 3) := bdX1_give_0 (30, .if_icmp .ge 30, 3) (List.mem_of_getElem? (i := 15) rfl)
theorem dX1_give_33 : decode cX1_give 33 = .ok (.iload 5, 2) := bdX1_give_0 (33, .iload 5, 2) (List.mem_of_getElem? (i := 16) rfl)
theorem dX1_give_35 : decode cX1_give 35 = .ok (.aload 4, 2) := bdX1_give_0 (35, .aload 4, 2) (List.mem_of_getElem? (i := 17) rfl)
theorem dX1_give_38 : decode cX1_give 38 = .ok (.if_icmp .ge 98, 3) := bdX1_give_0 (38, .if_icmp .ge 98, 3) (List.mem_of_getElem? (i := 18) rfl)
theorem dX1_give_41 : decode cX1_give 41 = .ok (.aload 4, 2) := bdX1_give_0 (41, .aload 4, 2) (List.mem_of_getElem? (i := 19) rfl)
theorem dX1_give_43 : decode cX1_give 43 = .ok (.iload 5, 2) := bdX1_give_0 (43, .iload 5, 2) (List.mem_of_getElem? (i := 20) rfl)
theorem dX1_give_45 : decode cX1_give 45 = .ok (.iload 7, 2) := bdX1_give_0 (45, .iload 7, 2) (List.mem_of_getElem? (i := 21) rfl)
theorem dX1_give_47 : decode cX1_give 47 = .ok (.iload_n 1, 1) := bdX1_give_0 (47, .iload_n 1, 1) (List.mem_of_getElem? (i := 22) rfl)
theorem dX1_give_48 : decode cX1_give 48 = .ok (.iload_n 2, 1) := bdX1_give_0 (48, .iload_n 2, 1) (List.mem_of_getElem? (i := 23) rfl)
theorem dX1_give_49 : decode cX1_give 49 = .ok (.iload_n 3, 1) := bdX1_give_0 (49, .iload_n 3, 1) (List.mem_of_getElem? (i := 24) rfl)
theorem dX1_give_50 : decode cX1_give 50 = .ok (.invokestatic 20, 3) := bdX1_give_0 (50, .invokestatic 20, 3) (List.mem_of_getElem? (i := 25) rfl)
theorem dX1_give_53 : decode cX1_give 53 = .ok (.iastore, 1) := bdX1_give_0 (53, .iastore, 1) (List.mem_of_getElem? (i := 26) rfl)
theorem dX1_give_54 : decode cX1_give 54 = .ok (.iinc 5 1, 3) := bdX1_give_0 (54, .iinc 5 1, 3) (List.mem_of_getElem? (i := 27) rfl)
theorem dX1_give_57 : decode cX1_give 57 = .ok (.goto 79, 3) := bdX1_give_0 (57, .goto 79, 3) (List.mem_of_getElem? (i := 28) rfl)
theorem dX1_give_60 : decode cX1_give 60 = .ok (.iload 7, 2) := bdX1_give_0 (60, .iload 7, 2) (List.mem_of_getElem? (i := 29) rfl)
theorem dX1_give_62 : decode cX1_give 62 = .ok (.sipush 20033, 3) := bdX1_give_0 (62, .sipush 20033, 3) (List.mem_of_getElem? (i := 30) rfl)
theorem dX1_give_65 : decode cX1_give 65 = .ok (.if_icmp .ne 34, 3) := bdX1_give_0 (65, .if_icmp .ne 34, 3) (List.mem_of_getElem? (i := 31) rfl)
theorem dX1_give_68 : decode cX1_give 68 = .ok (.iload 5, 2) := bdX1_give_0 (68, .iload 5, 2) (List.mem_of_getElem? (i := 32) rfl)
theorem dX1_give_70 : decode cX1_give 70 = .ok (.iconst 1, 1) := bdX1_give_0 (70, .iconst 1, 1) (List.mem_of_getElem? (i := 33) rfl)
theorem dX1_give_71 : decode cX1_give 71 = .ok (.if_icmp .lt 65, 3) := bdX1_give_0 (71, .if_icmp .lt 65, 3) (List.mem_of_getElem? (i := 34) rfl)
theorem dX1_give_74 : decode cX1_give 74 = .ok (.aload 4, 2) := bdX1_give_0 (74, .aload 4, 2) (List.mem_of_getElem? (i := 35) rfl)
theorem dX1_give_76 : decode cX1_give 76 = .ok (.iload 5, 2) := bdX1_give_0 (76, .iload 5, 2) (List.mem_of_getElem? (i := 36) rfl)
theorem dX1_give_78 : decode cX1_give 78 = .ok (.iconst 1, 1) := bdX1_give_0 (78, .iconst 1, 1) (List.mem_of_getElem? (i := 37) rfl)
theorem dX1_give_79 : decode cX1_give 79 = .ok (.isub, 1) := bdX1_give_0 (79, .isub, 1) (List.mem_of_getElem? (i := 38) rfl)
theorem dX1_give_80 : decode cX1_give 80 = .ok (.aload 4, 2) := bdX1_give_0 (80, .aload 4, 2) (List.mem_of_getElem? (i := 39) rfl)
theorem bdX1_give_82 : ∀ q ∈ ([(82, .iload 5, 2), (84, .iconst 1, 1), (85, .isub, 1), (86, .iaload, 1), (87, .ifCond .ne 7, 3), (90, .iconst 1, 1), (91, .goto 4, 3), (94, .iconst 0, 1), (95, .iastore, 1), (96, .goto 40, 3), (99, .iload 5, 2), (101, .iconst 2, 1), (102, .if_icmp .lt 34, 3), (105, .iinc 5 (-1), 3), (108, .aload 4, 2), (110, .iload 5, 2), (112, .iconst 1, 1), (113, .isub, 1), (114, .iload 7, 2), (116, .sipush 20000, 3), (119, .isub, 1), (120, .aload 4, 2), (122, .iload 5, 2), (124, .iconst 1, 1), (125, .isub, 1), (126, .iaload, 1), (127, .aload 4, 2), (129, .iload 5, 2), (131, .iaload, 1), (132, .invokestatic 24, 3), (135, .iastore, 1), (136, .iinc 6 1, 3), (139, .goto (-133), 3), (142, .aload 4, 2), (144, .iconst 0, 1), (145, .iaload, 1), (146, .ireturn, 1)] : List (Nat × Jvm.ClassFile.Instr × Nat)), decode cX1_give q.1 = .ok q.2 := chk_ok _ 82 _ rfl (by decide +kernel)
theorem dX1_give_82 : decode cX1_give 82 = .ok (.iload 5, 2) := bdX1_give_82 (82, .iload 5, 2) (List.mem_of_getElem? (i := 0) rfl)
theorem dX1_give_84 : decode cX1_give 84 = .ok (.iconst 1, 1) := bdX1_give_82 (84, .iconst 1, 1) (List.mem_of_getElem? (i := 1) rfl)
theorem dX1_give_85 : decode cX1_give 85 = .ok (.isub, 1) := bdX1_give_82 (85, .isub, 1) (List.mem_of_getElem? (i := 2) rfl)
theorem dX1_give_86 : decode cX1_give 86 = .ok (.iaload, 1) := bdX1_give_82 (86, .iaload, 1) (List.mem_of_getElem? (i := 3) rfl)
theorem dX1_give_87 : decode cX1_give 87 = .ok (.ifCond .ne 7, 3) := bdX1_give_82 (87, .ifCond .ne 7, 3) (List.mem_of_getElem? (i := 4) rfl)
theorem dX1_give_90 : decode cX1_give 90 = .ok (.iconst 1, 1) := bdX1_give_82 (90, .iconst 1, 1) (List.mem_of_getElem? (i := 5) rfl)
theorem dX1_give_91 : decode cX1_give 91 = .ok (.goto 4, 3) := bdX1_give_82 (91, .goto 4, 3) (List.mem_of_getElem? (i := 6) rfl)
theorem dX1_give_94 : decode cX1_give 94 = .ok (.iconst 0, 1) := bdX1_give_82 (94, .iconst 0, 1) (List.mem_of_getElem? (i := 7) rfl)
theorem dX1_give_95 : decode cX1_give 95 = .ok (.iastore, 1) := bdX1_give_82 (95, .iastore, 1) (List.mem_of_getElem? (i := 8) rfl)
theorem dX1_give_96 : decode cX1_give 96 = .ok (.goto 40, 3) := bdX1_give_82 (96, .goto 40, 3) (List.mem_of_getElem? (i := 9) rfl)
theorem dX1_give_99 : decode cX1_give 99 = .ok (.iload 5, 2) := bdX1_give_82 (99, .iload 5, 2) (List.mem_of_getElem? (i := 10) rfl)
theorem dX1_give_101 : decode cX1_give 101 = .ok (.iconst 2, 1) := bdX1_give_82 (101, .iconst 2, 1) (List.mem_of_getElem? (i := 11) rfl)
theorem dX1_give_102 : decode cX1_give 102 = .ok (.if_icmp .lt 34, 3) := bdX1_give_82 (102, .if_icmp .lt 34, 3) (List.mem_of_getElem? (i := 12) rfl)
theorem dX1_give_105 : decode cX1_give 105 = .ok (.iinc 5 (-1), 3) := bdX1_give_82 (105, .iinc 5 (-1), 3) (List.mem_of_getElem? (i := 13) rfl)
theorem dX1_give_108 : decode cX1_give 108 = .ok (.aload 4, 2) := bdX1_give_82 (108, .aload 4, 2) (List.mem_of_getElem? (i := 14) rfl)
theorem dX1_give_110 : decode cX1_give 110 = .ok (.iload 5, 2) := bdX1_give_82 (110, .iload 5, 2) (List.mem_of_getElem? (i := 15) rfl)
theorem dX1_give_112 : decode cX1_give 112 = .ok (.iconst 1, 1) := bdX1_give_82 (112, .iconst 1, 1) (List.mem_of_getElem? (i := 16) rfl)
theorem dX1_give_113 : decode cX1_give 113 = .ok (.isub, 1) := bdX1_give_82 (113, .isub, 1) (List.mem_of_getElem? (i := 17) rfl)
theorem dX1_give_114 : decode cX1_give 114 = .ok (.iload 7, 2) := bdX1_give_82 (114, .iload 7, 2) (List.mem_of_getElem? (i := 18) rfl)
theorem dX1_give_116 : decode cX1_give 116 = .ok (.sipush 20000, 3) := bdX1_give_82 (116, .sipush 20000, 3) (List.mem_of_getElem? (i := 19) rfl)
theorem dX1_give_119 : decode cX1_give 119 = .ok (.isub, 1) := bdX1_give_82 (119, .isub, 1) (List.mem_of_getElem? (i := 20) rfl)
theorem dX1_give_120 : decode cX1_give 120 = .ok (.aload 4, 2) := bdX1_give_82 (120, .aload 4, 2) (List.mem_of_getElem? (i := 21) rfl)
theorem dX1_give_122 : decode cX1_give 122 = .ok (.iload 5, 2) := bdX1_give_82 (122, .iload 5, 2) (List.mem_of_getElem? (i := 22) rfl)
theorem dX1_give_124 : decode cX1_give 124 = .ok (.iconst 1, 1) := bdX1_give_82 (124, .iconst 1, 1) (List.mem_of_getElem? (i := 23) rfl)
theorem dX1_give_125 : decode cX1_give 125 = .ok (.isub, 1) := bdX1_give_82 (125, .isub, 1) (List.mem_of_getElem? (i := 24) rfl)
theorem dX1_give_126 : decode cX1_give 126 = .ok (.iaload, 1) := bdX1_give_82 (126, .iaload, 1) (List.mem_of_getElem? (i := 25) rfl)
theorem dX1_give_127 : decode cX1_give 127 = .ok (.aload 4, 2) := bdX1_give_82 (127, .aload 4, 2) (List.mem_of_getElem? (i := 26) rfl)
theorem dX1_give_129 : decode cX1_give 129 = .ok (.iload 5, 2) := bdX1_give_82 (129, .iload 5, 2) (List.mem_of_getElem? (i := 27) rfl)
theorem dX1_give_131 : decode cX1_give 131 = .ok (.iaload, 1) := bdX1_give_82 (131, .iaload, 1) (List.mem_of_getElem? (i := 28) rfl)
theorem dX1_give_132 : decode cX1_give 132 = .ok (.invokestatic 24, 3) := bdX1_give_82 (132, .invokestatic 24, 3) (List.mem_of_getElem? (i := 29) rfl)
theorem dX1_give_135 : decode cX1_give 135 = .ok (.iastore, 1) := bdX1_give_82 (135, .iastore, 1) (List.mem_of_getElem? (i := 30) rfl)
theorem dX1_give_136 : decode cX1_give 136 = .ok (.iinc 6 1, 3) := bdX1_give_82 (136, .iinc 6 1, 3) (List.mem_of_getElem? (i := 31) rfl)
theorem dX1_give_139 : decode cX1_give 139 = .ok (.goto (-133), 3) := bdX1_give_82 (139, .goto (-133), 3) (List.mem_of_getElem? (i := 32) rfl)
theorem dX1_give_142 : decode cX1_give 142 = .ok (.aload 4, 2) := bdX1_give_82 (142, .aload 4, 2) (List.mem_of_getElem? (i := 33) rfl)
theorem dX1_give_144 : decode cX1_give 144 = .ok (.iconst 0, 1) := bdX1_give_82 (144, .iconst 0, 1) (List.mem_of_getElem? (i := 34) rfl)
theorem dX1_give_145 : decode cX1_give 145 = .ok (.iaload, 1) := bdX1_give_82 (145, .iaload, 1) (List.mem_of_getElem? (i := 35) rfl)
theorem dX1_give_146 : decode cX1_give 146 = .ok (.ireturn, 1) := bdX1_give_82 (146, .ireturn, 1) (List.mem_of_getElem? (i := 36) rfl)
theorem dX1_give_12 : decode cX1_give 12 = .ok (.arraylength, 1) := by decide +kernel
theorem dX1_give_37 : decode cX1_give 37 = .ok (.arraylength, 1) := by decide +kernel
theorem fX1_16 : fldOK RX1 16 1 2 (.array .int) true := ⟨_, _, _, tyX1, ⟨rfl, iX1, by decide, rfl, by decide⟩, tw_823, ⟨tyX1_ok, nmX1⟩, by decide +kernel, rfl, rfl⟩
theorem kX1_24 : mthS RX1 24 yX1_work prog_3_method_4_code 3 (Option.some Jvm.ClassFile.FieldType.int) 3 := ⟨⟨⟨tw_410, tw_69, tw_412⟩, rfl, by decide +kernel⟩, tw_411⟩
theorem kX1_20 : mthS RX1 20 yX1_leaf prog_3_method_3_code 4 (Option.some Jvm.ClassFile.FieldType.int) 4 := ⟨⟨⟨tw_407, tw_69, tw_409⟩, rfl, by decide +kernel⟩, tw_408⟩
def BX1_give_136 (ln : Nat → Nat) (post : Int32 → HC → Prop) (K6 : HC → Nat → Int32 → Int32 → Int32 → Nat → Int32 → Int32 → Prop) (S : HC) (x0 : Nat) (x1 : Int32) (x2 : Int32) (x3 : Int32) (x4 : Nat) (x5 : Int32) (x6 : Int32) : Prop := lt_ (x6 + (1 : Int32)) fun z1 => K6 S x0 x1 x2 x3 x4 x5 z1
def BX1_give_95 (ln : Nat → Nat) (post : Int32 → HC → Prop) (K6 : HC → Nat → Int32 → Int32 → Int32 → Nat → Int32 → Int32 → Prop) (S : HC) (x0 : Nat) (x1 : Int32) (x2 : Int32) (x3 : Int32) (x4 : Nat) (x5 : Int32) (x6 : Int32) (t0 : Nat) (t1 : Int32) (t2 : Int32) : Prop := as_ (ln t0) t1 (fun j => sI S t0 j t2) fun S => BX1_give_136 ln post K6 S x0 x1 x2 x3 x4 x5 x6
def LX1_give_6 (ln : Nat → Nat) (post : Int32 → HC → Prop) : Nat → HC → Nat → Int32 → Int32 → Int32 → Nat → Int32 → Int32 → Prop
  | 0 => fun _ _ _ _ _ _ _ _ => False
  | n6 + 1 => fun S x0 x1 x2 x3 x4 x5 x6 => dn_ (hR S x0 2) fun b2 => lt_ (nI (ln b2)) fun z3 => if z3 ≤ x6 then (al_ (ln x4) (0 : Int32) (hI S x4) fun z4 => post z4 S) else (dn_ (hR S x0 2) fun b5 => al_ (ln b5) x6 (hI S b5) fun z6 => if (20000 : Int32) ≤ z6 then (if z6 = (20033 : Int32) then (if x5 < (1 : Int32) then (BX1_give_136 ln post (LX1_give_6 ln post n6) S x0 x1 x2 x3 x4 x5 x6) else (lt_ (x5 - (1 : Int32)) fun z14 => lt_ (x5 - (1 : Int32)) fun z15 => al_ (ln x4) z15 (hI S x4) fun z16 => if z16 = 0 then (BX1_give_95 ln post (LX1_give_6 ln post n6) S x0 x1 x2 x3 x4 x5 x6 x4 z14 (1 : Int32)) else (BX1_give_95 ln post (LX1_give_6 ln post n6) S x0 x1 x2 x3 x4 x5 x6 x4 z14 (0 : Int32)))) else (if x5 < (2 : Int32) then (BX1_give_136 ln post (LX1_give_6 ln post n6) S x0 x1 x2 x3 x4 x5 x6) else (lt_ (x5 + (-1 : Int32)) fun z7 => lt_ (z7 - (1 : Int32)) fun z8 => lt_ (z6 - (20000 : Int32)) fun z9 => lt_ (z7 - (1 : Int32)) fun z10 => al_ (ln x4) z10 (hI S x4) fun z11 => al_ (ln x4) z7 (hI S x4) fun z12 => wpX1_work ln S z9 z11 z12 fun z13 S => as_ (ln x4) z8 (fun j => sI S x4 j z13) fun S => BX1_give_136 ln post (LX1_give_6 ln post n6) S x0 x1 x2 x3 x4 z7 x6))) else (lt_ (nI (ln x4)) fun z17 => if z17 ≤ x5 then (BX1_give_136 ln post (LX1_give_6 ln post n6) S x0 x1 x2 x3 x4 x5 x6) else (wpX1_leaf ln S z6 x1 x2 x3 fun z18 S => as_ (ln x4) x5 (fun j => sI S x4 j z18) fun S => lt_ (x5 + (1 : Int32)) fun z19 => BX1_give_136 ln post (LX1_give_6 ln post n6) S x0 x1 x2 x3 x4 z19 x6)))
def wpX1_give (ln : Nat → Nat) (S : HC) (a0 : Nat) (a1 : Int32) (a2 : Int32) (a3 : Int32) (a4 : Nat) (post : Int32 → HC → Prop) : Prop := ∃ n6, LX1_give_6 ln post n6 S a0 a1 a2 a3 a4 (0 : Int32) (0 : Int32)
abbrev rmX1_give : Room := { frames := 1, cells := 0, slots := 0, locals := 23 }
set_option maxHeartbeats 4000000 in
set_option maxRecDepth 100000 in
theorem ctX1_give {l : Launch} {g : GX} {N : Nat} {ln : Nat → Nat} {S : HC} {a0 : Nat} {a1 : Int32} {a2 : Int32} {a3 : Int32} {a4 : Nat} {post : Int32 → HC → Prop} (hr_a0 : a0 < N) (hk_a0 : kd a0 = 1) (hr_a4 : a4 < N) (hk_a4 : kd a4 = 9) (h : wpX1_give ln S a0 a1 a2 a3 a4 post) : Met l yX1_give (Cond.code yX1_give prog_3_method_2_code 8 (Option.some Jvm.ClassFile.FieldType.int) :: gtbl) rmX1_give (va_Pc [.ref (gz g + a0), .int a1, .int a2, .int a3, .ref (gz g + a4)] (AtP g N ln S)) (QI g N ln post) 0 0 (gF g) := by
  refine m_of (by decide) (Nat.le_of_ble_eq_true rfl) ?_
  intro p e s m below meth c ls F hr I hl
  have hl : lv_has ls 8 [(0, .ref (gz g + a0)), (1, .int a1), (2, .int a2), (3, .int a3), (4, .ref (gz g + a4))] := hl
  unfold wpX1_give at h
  have hl_6 : ∀ n6 : Nat, ∀ (S : HC) (H : Heap) (locs : List Loc) (ls : Array Slot) (x0 : Nat) (x1 : Int32) (x2 : Int32) (x3 : Int32) (x4 : Nat) (x5 : Int32) (x6 : Int32), x0 < N → kd x0 = 1 → x4 < N → kd x4 = 9 → LX1_give_6 ln post n6 S x0 x1 x2 x3 x4 x5 x6 → Inv g N ln S s H locs → lv_has ls 8 [(0, .ref (gz g + x0)), (1, .int x1), (2, .int x2), (3, .int x3), (4, .ref (gz g + x4)), (5, .int x5), (6, .int x6)] → W p l e rmX1_give s m ([.ref (gz g + a0), .int a1, .int a2, .int a3, .ref (gz g + a4)] : List Value).toArray below meth c H locs 0 0 (MQ below (QI g N ln post) ([.ref (gz g + a0), .int a1, .int a2, .int a3, .ref (gz g + a4)] : List Value).toArray s 0 0 (gF g)) (F0 m 6 ls []) := by
    intro n6
    induction n6 with
    | zero =>
      intro S H locs ls x0 x1 x2 x3 x4 x5 x6 hr_x0 hk_x0 hr_x4 hk_x4 h I hl
      exact h.elim
    | succ n6 ih =>
      have hk6 := ih
      have hj_136 : ∀ (S : HC) (H : Heap) (locs : List Loc) (ls : Array Slot) (x0 : Nat) (x1 : Int32) (x2 : Int32) (x3 : Int32) (x4 : Nat) (x5 : Int32) (x6 : Int32), x0 < N → kd x0 = 1 → x4 < N → kd x4 = 9 → BX1_give_136 ln post (LX1_give_6 ln post n6) S x0 x1 x2 x3 x4 x5 x6 → Inv g N ln S s H locs → lv_has ls 8 [(0, .ref (gz g + x0)), (1, .int x1), (2, .int x2), (3, .int x3), (4, .ref (gz g + x4)), (5, .int x5), (6, .int x6)] → W p l e rmX1_give s m ([.ref (gz g + a0), .int a1, .int a2, .int a3, .ref (gz g + a4)] : List Value).toArray below meth c H locs 0 0 (MQ below (QI g N ln post) ([.ref (gz g + a0), .int a1, .int a2, .int a3, .ref (gz g + a4)] : List Value).toArray s 0 0 (gF g)) (F0 m 136 ls []) := by
        intro S H locs ls x0 x1 x2 x3 x4 x5 x6 hr_x0 hk_x0 hr_x4 hk_x4 h I hl
        unfold BX1_give_136 at h
        obtain ⟨z1, e_z1, h⟩ := lt_x h
        refine lv_iinc (v := z1) (lv' := [(6, .int z1), (0, .ref (gz g + x0)), (1, .int x1), (2, .int x2), (3, .int x3), (4, .ref (gz g + x4)), (5, .int x5)]) F.1 F.2.1 dX1_give_136 hl (k := 6) rfl (by rw [e_z1]; rfl) (by decide) rfl (fun ls hl => ?_)
        refine lv_goto (tgt := 6) F.1 F.2.1 dX1_give_139 (by decide) ?_
        exact hk6 S _ _ _ x0 x1 x2 x3 x4 x5 z1 hr_x0 hk_x0 hr_x4 hk_x4 h I (lv_sub hl [1, 2, 3, 4, 5, 6, 0] rfl)
      have hj_95 : ∀ (S : HC) (H : Heap) (locs : List Loc) (ls : Array Slot) (x0 : Nat) (x1 : Int32) (x2 : Int32) (x3 : Int32) (x4 : Nat) (x5 : Int32) (x6 : Int32) (t0 : Nat) (t1 : Int32) (t2 : Int32), x0 < N → kd x0 = 1 → x4 < N → kd x4 = 9 → t0 < N → kd t0 = 9 → BX1_give_95 ln post (LX1_give_6 ln post n6) S x0 x1 x2 x3 x4 x5 x6 t0 t1 t2 → Inv g N ln S s H locs → lv_has ls 8 [(0, .ref (gz g + x0)), (1, .int x1), (2, .int x2), (3, .int x3), (4, .ref (gz g + x4)), (5, .int x5), (6, .int x6)] → W p l e rmX1_give s m ([.ref (gz g + a0), .int a1, .int a2, .int a3, .ref (gz g + a4)] : List Value).toArray below meth c H locs 0 0 (MQ below (QI g N ln post) ([.ref (gz g + a0), .int a1, .int a2, .int a3, .ref (gz g + a4)] : List Value).toArray s 0 0 (gF g)) (F0 m 95 ls [.int t2, .int t1, .ref (gz g + t0)]) := by
        intro S H locs ls x0 x1 x2 x3 x4 x5 x6 t0 t1 t2 hr_x0 hk_x0 hr_x4 hk_x4 hr_t0 hk_t0 h I hl
        unfold BX1_give_95 at h
        refine r_ast F I hr_t0 hk_t0 dX1_give_95 h (fun S H locs I h => ?_)
        refine lv_goto (tgt := 136) F.1 F.2.1 dX1_give_96 (by decide) ?_
        exact hj_136 S _ _ _ x0 x1 x2 x3 x4 x5 x6 hr_x0 hk_x0 hr_x4 hk_x4 h I (lv_sub hl [0, 1, 2, 3, 4, 5, 6] rfl)
      intro S H locs ls x0 x1 x2 x3 x4 x5 x6 hr_x0 hk_x0 hr_x4 hk_x4 h I hl
      rw [LX1_give_6] at h
      refine lv_iload F.1 F.2.1 dX1_give_6 (lv_at hl 6 rfl) ?_
      refine lv_aload_n F.1 F.2.1 dX1_give_8 rfl (lv_at hl 0 rfl) ?_
      refine r_getN F I hr_x0 hk_x0 fX1_16 (f := 9) rfl (by decide) dX1_give_9 h (fun b2 hr_b2 hk_b2 h => ?_)
      refine r_alen F I hr_b2 hk_b2 dX1_give_12 h (fun z3 h => ?_)
      refine r_icmp_ge (tgt := 142) F dX1_give_13 (by decide) h (fun h => ?_) (fun h => ?_)
      · refine lv_aload F.1 F.2.1 dX1_give_142 (lv_at hl 4 rfl) ?_
        refine lv_iconst (v := 0) F.1 F.2.1 dX1_give_144 (by decide) ?_
        refine r_ald F I hr_x4 hk_x4 dX1_give_145 h (fun z4 h => ?_)
        exact r_ireturn F I ⟨hr.1, hr.2.1, trivial⟩ h dX1_give_146
      · refine lv_aload_n F.1 F.2.1 dX1_give_16 rfl (lv_at hl 0 rfl) ?_
        refine r_getN F I hr_x0 hk_x0 fX1_16 (f := 9) rfl (by decide) dX1_give_17 h (fun b5 hr_b5 hk_b5 h => ?_)
        refine lv_iload F.1 F.2.1 dX1_give_20 (lv_at hl 6 rfl) ?_
        refine r_ald F I hr_b5 hk_b5 dX1_give_22 h (fun z6 h => ?_)
        refine lv_istore (lv' := [(7, .int z6), (0, .ref (gz g + x0)), (1, .int x1), (2, .int x2), (3, .int x3), (4, .ref (gz g + x4)), (5, .int x5), (6, .int x6)]) F.1 F.2.1 dX1_give_23 hl (by decide) rfl (fun ls hl => ?_)
        refine lv_iload F.1 F.2.1 dX1_give_25 (lv_at hl 0 rfl) ?_
        refine lv_sipush (v := 20000) F.1 F.2.1 dX1_give_27 (by decide) ?_
        refine r_icmp_ge (tgt := 60) F dX1_give_30 (by decide) h (fun h => ?_) (fun h => ?_)
        · refine lv_iload F.1 F.2.1 dX1_give_60 (lv_at hl 0 rfl) ?_
          refine lv_sipush (v := 20033) F.1 F.2.1 dX1_give_62 (by decide) ?_
          refine r_icmp_ne (tgt := 99) F dX1_give_65 (by decide) h (fun h => ?_) (fun h => ?_)
          · refine lv_iload F.1 F.2.1 dX1_give_99 (lv_at hl 6 rfl) ?_
            refine lv_iconst (v := 2) F.1 F.2.1 dX1_give_101 (by decide) ?_
            refine r_icmp_lt (tgt := 136) F dX1_give_102 (by decide) h (fun h => ?_) (fun h => ?_)
            · exact hj_136 S _ _ _ x0 x1 x2 x3 x4 x5 x6 hr_x0 hk_x0 hr_x4 hk_x4 h I (lv_sub hl [1, 2, 3, 4, 5, 6, 7] rfl)
            · obtain ⟨z7, e_z7, h⟩ := lt_x h
              refine lv_iinc (v := z7) (lv' := [(5, .int z7), (7, .int z6), (0, .ref (gz g + x0)), (1, .int x1), (2, .int x2), (3, .int x3), (4, .ref (gz g + x4)), (6, .int x6)]) F.1 F.2.1 dX1_give_105 hl (k := 6) rfl (by rw [e_z7]; rfl) (by decide) rfl (fun ls hl => ?_)
              refine lv_aload F.1 F.2.1 dX1_give_108 (lv_at hl 6 rfl) ?_
              refine lv_iload F.1 F.2.1 dX1_give_110 (lv_at hl 0 rfl) ?_
              refine lv_iconst (v := 1) F.1 F.2.1 dX1_give_112 (by decide) ?_
              refine r_isub F dX1_give_113 h (fun z8 h => ?_)
              refine lv_iload F.1 F.2.1 dX1_give_114 (lv_at hl 1 rfl) ?_
              refine lv_sipush (v := 20000) F.1 F.2.1 dX1_give_116 (by decide) ?_
              refine r_isub F dX1_give_119 h (fun z9 h => ?_)
              refine lv_aload F.1 F.2.1 dX1_give_120 (lv_at hl 6 rfl) ?_
              refine lv_iload F.1 F.2.1 dX1_give_122 (lv_at hl 0 rfl) ?_
              refine lv_iconst (v := 1) F.1 F.2.1 dX1_give_124 (by decide) ?_
              refine r_isub F dX1_give_125 h (fun z10 h => ?_)
              refine r_ald F I hr_x4 hk_x4 dX1_give_126 h (fun z11 h => ?_)
              refine lv_aload F.1 F.2.1 dX1_give_127 (lv_at hl 6 rfl) ?_
              refine lv_iload F.1 F.2.1 dX1_give_129 (lv_at hl 0 rfl) ?_
              refine r_ald F I hr_x4 hk_x4 dX1_give_131 h (fun z12 h => ?_)
              refine g_I I (run_S (As := [.int z9, .int z11, .int z12]) (rest := [.int z8, .ref (gz g + x4)]) F I kX1_24 (ctX1_work h) ⟨rfl, rfl⟩ ⟨Nat.le_of_ble_eq_true rfl, Nat.le_of_ble_eq_true rfl⟩ rfl hl.1 rfl (Nat.le_of_ble_eq_true rfl) ⟨Nat.le_of_ble_eq_true rfl, Nat.le_of_ble_eq_true rfl⟩ dX1_give_132) (fun z13 S H locs I h => ?_)
              refine r_ast F I hr_x4 hk_x4 dX1_give_135 h (fun S H locs I h => ?_)
              exact hj_136 S _ _ _ x0 x1 x2 x3 x4 z7 x6 hr_x0 hk_x0 hr_x4 hk_x4 h I (lv_sub hl [2, 3, 4, 5, 6, 0, 7] rfl)
          · refine lv_iload F.1 F.2.1 dX1_give_68 (lv_at hl 6 rfl) ?_
            refine lv_iconst (v := 1) F.1 F.2.1 dX1_give_70 (by decide) ?_
            refine r_icmp_lt (tgt := 136) F dX1_give_71 (by decide) h (fun h => ?_) (fun h => ?_)
            · exact hj_136 S _ _ _ x0 x1 x2 x3 x4 x5 x6 hr_x0 hk_x0 hr_x4 hk_x4 h I (lv_sub hl [1, 2, 3, 4, 5, 6, 7] rfl)
            · refine lv_aload F.1 F.2.1 dX1_give_74 (lv_at hl 5 rfl) ?_
              refine lv_iload F.1 F.2.1 dX1_give_76 (lv_at hl 6 rfl) ?_
              refine lv_iconst (v := 1) F.1 F.2.1 dX1_give_78 (by decide) ?_
              refine r_isub F dX1_give_79 h (fun z14 h => ?_)
              refine lv_aload F.1 F.2.1 dX1_give_80 (lv_at hl 5 rfl) ?_
              refine lv_iload F.1 F.2.1 dX1_give_82 (lv_at hl 6 rfl) ?_
              refine lv_iconst (v := 1) F.1 F.2.1 dX1_give_84 (by decide) ?_
              refine r_isub F dX1_give_85 h (fun z15 h => ?_)
              refine r_ald F I hr_x4 hk_x4 dX1_give_86 h (fun z16 h => ?_)
              refine r_if_ne (tgt := 94) F dX1_give_87 (by decide) h (fun h => ?_) (fun h => ?_)
              · refine lv_iconst (v := 0) F.1 F.2.1 dX1_give_94 (by decide) ?_
                exact hj_95 S _ _ _ x0 x1 x2 x3 x4 x5 x6 x4 z14 (0 : Int32) hr_x0 hk_x0 hr_x4 hk_x4 hr_x4 hk_x4 h I (lv_sub hl [1, 2, 3, 4, 5, 6, 7] rfl)
              · refine lv_iconst (v := 1) F.1 F.2.1 dX1_give_90 (by decide) ?_
                refine lv_goto (tgt := 95) F.1 F.2.1 dX1_give_91 (by decide) ?_
                exact hj_95 S _ _ _ x0 x1 x2 x3 x4 x5 x6 x4 z14 (1 : Int32) hr_x0 hk_x0 hr_x4 hk_x4 hr_x4 hk_x4 h I (lv_sub hl [1, 2, 3, 4, 5, 6, 7] rfl)
        · refine lv_iload F.1 F.2.1 dX1_give_33 (lv_at hl 6 rfl) ?_
          refine lv_aload F.1 F.2.1 dX1_give_35 (lv_at hl 5 rfl) ?_
          refine r_alen F I hr_x4 hk_x4 dX1_give_37 h (fun z17 h => ?_)
          refine r_icmp_ge (tgt := 136) F dX1_give_38 (by decide) h (fun h => ?_) (fun h => ?_)
          · exact hj_136 S _ _ _ x0 x1 x2 x3 x4 x5 x6 hr_x0 hk_x0 hr_x4 hk_x4 h I (lv_sub hl [1, 2, 3, 4, 5, 6, 7] rfl)
          · refine lv_aload F.1 F.2.1 dX1_give_41 (lv_at hl 5 rfl) ?_
            refine lv_iload F.1 F.2.1 dX1_give_43 (lv_at hl 6 rfl) ?_
            refine lv_iload F.1 F.2.1 dX1_give_45 (lv_at hl 0 rfl) ?_
            refine lv_iload_n F.1 F.2.1 dX1_give_47 rfl (lv_at hl 2 rfl) ?_
            refine lv_iload_n F.1 F.2.1 dX1_give_48 rfl (lv_at hl 3 rfl) ?_
            refine lv_iload_n F.1 F.2.1 dX1_give_49 rfl (lv_at hl 4 rfl) ?_
            refine g_I I (run_S (As := [.int z6, .int x1, .int x2, .int x3]) (rest := [.int x5, .ref (gz g + x4)]) F I kX1_20 (ctX1_leaf h) ⟨rfl, rfl⟩ ⟨Nat.le_of_ble_eq_true rfl, Nat.le_of_ble_eq_true rfl⟩ rfl hl.1 rfl (Nat.le_of_ble_eq_true rfl) ⟨Nat.le_of_ble_eq_true rfl, Nat.le_of_ble_eq_true rfl⟩ dX1_give_50) (fun z18 S H locs I h => ?_)
            refine r_ast F I hr_x4 hk_x4 dX1_give_53 h (fun S H locs I h => ?_)
            obtain ⟨z19, e_z19, h⟩ := lt_x h
            refine lv_iinc (v := z19) (lv' := [(5, .int z19), (7, .int z6), (0, .ref (gz g + x0)), (1, .int x1), (2, .int x2), (3, .int x3), (4, .ref (gz g + x4)), (6, .int x6)]) F.1 F.2.1 dX1_give_54 hl (k := 6) rfl (by rw [e_z19]; rfl) (by decide) rfl (fun ls hl => ?_)
            refine lv_goto (tgt := 136) F.1 F.2.1 dX1_give_57 (by decide) ?_
            exact hj_136 S _ _ _ x0 x1 x2 x3 x4 z19 x6 hr_x0 hk_x0 hr_x4 hk_x4 h I (lv_sub hl [2, 3, 4, 5, 6, 0, 7] rfl)
  refine lv_iconst (v := 0) F.1 F.2.1 dX1_give_0 (by decide) ?_
  refine lv_istore (lv' := [(5, .int (0 : Int32)), (0, .ref (gz g + a0)), (1, .int a1), (2, .int a2), (3, .int a3), (4, .ref (gz g + a4))]) F.1 F.2.1 dX1_give_1 hl (by decide) rfl (fun ls hl => ?_)
  refine lv_iconst (v := 0) F.1 F.2.1 dX1_give_3 (by decide) ?_
  refine lv_istore (lv' := [(6, .int (0 : Int32)), (5, .int (0 : Int32)), (0, .ref (gz g + a0)), (1, .int a1), (2, .int a2), (3, .int a3), (4, .ref (gz g + a4))]) F.1 F.2.1 dX1_give_4 hl (by decide) rfl (fun ls hl => ?_)
  obtain ⟨n6, h⟩ := h
  exact hl_6 n6 S _ _ _ a0 a1 a2 a3 a4 (0 : Int32) (0 : Int32) hr_a0 hk_a0 hr_a4 hk_a4 h I (lv_sub hl [2, 3, 4, 5, 6, 1, 0] rfl)
theorem bdX3_beginAs_0 : ∀ q ∈ ([(0, .aload_n 0, 1), (1, .iload_n 1, 1), (2, .putfield 9, 3), (5, .aload_n 0, 1), (6, .iload_n 2, 1), (7, .putfield 15, 3), (10, .iconst 0, 1), (11, .istore_n 3, 1), (12, .iload_n 3, 1), (13, .bipush 24, 2), (15, .if_icmp .ge 16, 3), (18, .aload_n 0, 1), (19, .getfield 18, 3), (22, .iload_n 3, 1), (23, .iconst 0, 1), (24, .iastore, 1), (25, .iinc 3 1, 3), (28, .goto (-16), 3), (31, .return_, 1)] : List (Nat × Jvm.ClassFile.Instr × Nat)), decode cX3_beginAs q.1 = .ok q.2 := chk_ok _ 0 _ rfl (by decide +kernel)
theorem dX3_beginAs_0 : decode cX3_beginAs 0 = .ok (.aload_n 0, 1) := bdX3_beginAs_0 (0, .aload_n 0, 1) (List.mem_of_getElem? (i := 0) rfl)
theorem dX3_beginAs_1 : decode cX3_beginAs 1 = .ok (.iload_n 1, 1) := bdX3_beginAs_0 (1, .iload_n 1, 1) (List.mem_of_getElem? (i := 1) rfl)
theorem dX3_beginAs_2 : decode cX3_beginAs 2 = .ok (.putfield 9, 3) := bdX3_beginAs_0 (2, .putfield 9, 3) (List.mem_of_getElem? (i := 2) rfl)
theorem dX3_beginAs_5 : decode cX3_beginAs 5 = .ok (.aload_n 0, 1) := bdX3_beginAs_0 (5, .aload_n 0, 1) (List.mem_of_getElem? (i := 3) rfl)
theorem dX3_beginAs_6 : decode cX3_beginAs 6 = .ok (.iload_n 2, 1) := bdX3_beginAs_0 (6, .iload_n 2, 1) (List.mem_of_getElem? (i := 4) rfl)
theorem dX3_beginAs_7 : decode cX3_beginAs 7 = .ok (.putfield 15, 3) := bdX3_beginAs_0 (7, .putfield 15, 3) (List.mem_of_getElem? (i := 5) rfl)
theorem dX3_beginAs_10 : decode cX3_beginAs 10 = .ok (.iconst 0, 1) := bdX3_beginAs_0 (10, .iconst 0, 1) (List.mem_of_getElem? (i := 6) rfl)
theorem dX3_beginAs_11 : decode cX3_beginAs 11 = .ok (.istore_n 3, 1) := bdX3_beginAs_0 (11, .istore_n 3, 1) (List.mem_of_getElem? (i := 7) rfl)
theorem dX3_beginAs_12 : decode cX3_beginAs 12 = .ok (.iload_n 3, 1) := bdX3_beginAs_0 (12, .iload_n 3, 1) (List.mem_of_getElem? (i := 8) rfl)
theorem dX3_beginAs_13 : decode cX3_beginAs 13 = .ok (.bipush 24, 2) := bdX3_beginAs_0 (13, .bipush 24, 2) (List.mem_of_getElem? (i := 9) rfl)
theorem dX3_beginAs_15 : decode cX3_beginAs 15 = .ok (.if_icmp .ge 16, 3) := bdX3_beginAs_0 (15, .if_icmp .ge 16, 3) (List.mem_of_getElem? (i := 10) rfl)
theorem dX3_beginAs_18 : decode cX3_beginAs 18 = .ok (.aload_n 0, 1) := bdX3_beginAs_0 (18, .aload_n 0, 1) (List.mem_of_getElem? (i := 11) rfl)
theorem dX3_beginAs_19 : decode cX3_beginAs 19 = .ok (.getfield 18, 3) := bdX3_beginAs_0 (19, .getfield 18, 3) (List.mem_of_getElem? (i := 12) rfl)
theorem dX3_beginAs_22 : decode cX3_beginAs 22 = .ok (.iload_n 3, 1) := bdX3_beginAs_0 (22, .iload_n 3, 1) (List.mem_of_getElem? (i := 13) rfl)
theorem dX3_beginAs_23 : decode cX3_beginAs 23 = .ok (.iconst 0, 1) := bdX3_beginAs_0 (23, .iconst 0, 1) (List.mem_of_getElem? (i := 14) rfl)
theorem dX3_beginAs_24 : decode cX3_beginAs 24 = .ok (.iastore, 1) := bdX3_beginAs_0 (24, .iastore, 1) (List.mem_of_getElem? (i := 15) rfl)
theorem dX3_beginAs_25 : decode cX3_beginAs 25 = .ok (.iinc 3 1, 3) := bdX3_beginAs_0 (25, .iinc 3 1, 3) (List.mem_of_getElem? (i := 16) rfl)
theorem dX3_beginAs_28 : decode cX3_beginAs 28 = .ok (.goto (-16), 3) := bdX3_beginAs_0 (28, .goto (-16), 3) (List.mem_of_getElem? (i := 17) rfl)
theorem dX3_beginAs_31 : decode cX3_beginAs 31 = .ok (.return_, 1) := bdX3_beginAs_0 (31, .return_, 1) (List.mem_of_getElem? (i := 18) rfl)
theorem fX3_18 : fldOK RX3 18 3 2 (.array .int) true := ⟨_, _, _, tyX3, ⟨rfl, iX3, by decide, rfl, by decide⟩, tw_247, ⟨tyX3_ok, nmX3⟩, by decide +kernel, rfl, rfl⟩
theorem fX3_9 : fldOK RX3 9 3 0 .int false := ⟨_, _, _, tyX3, ⟨rfl, iX3, by decide, rfl, by decide⟩, tw_243, ⟨tyX3_ok, nmX3⟩, by decide +kernel, rfl, rfl⟩
theorem fX3_15 : fldOK RX3 15 3 1 .int false := ⟨_, _, _, tyX3, ⟨rfl, iX3, by decide, rfl, by decide⟩, tw_245, ⟨tyX3_ok, nmX3⟩, by decide +kernel, rfl, rfl⟩
def LX3_beginAs_12 (ln : Nat → Nat) (post : HC → Prop) : Nat → HC → Nat → Int32 → Prop
  | 0 => fun _ _ _ => False
  | n12 + 1 => fun S x0 x3 => if (24 : Int32) ≤ x3 then (post S) else (dn_ (hR S x0 2) fun b1 => as_ (ln b1) x3 (fun j => sI S b1 j (0 : Int32)) fun S => lt_ (x3 + (1 : Int32)) fun z2 => (LX3_beginAs_12 ln post n12) S x0 z2)
def wpX3_beginAs (ln : Nat → Nat) (S : HC) (a0 : Nat) (a1 : Int32) (a2 : Int32) (post : HC → Prop) : Prop := lt_ (sI S a0 0 a1) fun S => lt_ (sI S a0 1 a2) fun S => ∃ n12, LX3_beginAs_12 ln post n12 S a0 (0 : Int32)
abbrev rmX3_beginAs : Room := { frames := 0, cells := 0, slots := 0, locals := 0 }
set_option maxHeartbeats 4000000 in
set_option maxRecDepth 100000 in
theorem ctX3_beginAs {l : Launch} {g : GX} {N : Nat} {ln : Nat → Nat} {S : HC} {a0 : Nat} {a1 : Int32} {a2 : Int32} {post : HC → Prop} (hr_a0 : a0 < N) (hk_a0 : kd a0 = 3) (h : wpX3_beginAs ln S a0 a1 a2 post) : Met l yX3_beginAs (Cond.code yX3_beginAs prog_5_method_2_code 4 (Option.none : Option Jvm.ClassFile.FieldType) :: gtbl) rmX3_beginAs (va_Pc [.ref (gz g + a0), .int a1, .int a2] (AtP g N ln S)) (QV g N ln post) 0 0 (gF g) := by
  refine m_of (by decide) (Nat.le_of_ble_eq_true rfl) ?_
  intro p e s m below meth c ls F hr I hl
  have hl : lv_has ls 4 [(0, .ref (gz g + a0)), (1, .int a1), (2, .int a2)] := hl
  unfold wpX3_beginAs at h
  have hl_12 : ∀ n12 : Nat, ∀ (S : HC) (H : Heap) (locs : List Loc) (ls : Array Slot) (x0 : Nat) (x3 : Int32), x0 < N → kd x0 = 3 → LX3_beginAs_12 ln post n12 S x0 x3 → Inv g N ln S s H locs → lv_has ls 4 [(0, .ref (gz g + x0)), (3, .int x3)] → W p l e rmX3_beginAs s m ([.ref (gz g + a0), .int a1, .int a2] : List Value).toArray below meth c H locs 0 0 (MQ below (QV g N ln post) ([.ref (gz g + a0), .int a1, .int a2] : List Value).toArray s 0 0 (gF g)) (F0 m 12 ls []) := by
    intro n12
    induction n12 with
    | zero =>
      intro S H locs ls x0 x3 hr_x0 hk_x0 h I hl
      exact h.elim
    | succ n12 ih =>
      have hk12 := ih
      intro S H locs ls x0 x3 hr_x0 hk_x0 h I hl
      rw [LX3_beginAs_12] at h
      refine lv_iload_n F.1 F.2.1 dX3_beginAs_12 rfl (lv_at hl 1 rfl) ?_
      refine lv_bipush (v := 24) F.1 F.2.1 dX3_beginAs_13 (by decide) ?_
      refine r_icmp_ge (tgt := 31) F dX3_beginAs_15 (by decide) h (fun h => ?_) (fun h => ?_)
      · exact r_vreturn F I ⟨hr.1, hr.2.1, trivial⟩ h dX3_beginAs_31
      · refine lv_aload_n F.1 F.2.1 dX3_beginAs_18 rfl (lv_at hl 0 rfl) ?_
        refine r_getN F I hr_x0 hk_x0 fX3_18 (f := 9) rfl (by decide) dX3_beginAs_19 h (fun b1 hr_b1 hk_b1 h => ?_)
        refine lv_iload_n F.1 F.2.1 dX3_beginAs_22 rfl (lv_at hl 1 rfl) ?_
        refine lv_iconst (v := 0) F.1 F.2.1 dX3_beginAs_23 (by decide) ?_
        refine r_ast F I hr_b1 hk_b1 dX3_beginAs_24 h (fun S H locs I h => ?_)
        obtain ⟨z2, e_z2, h⟩ := lt_x h
        refine lv_iinc (v := z2) (lv' := [(3, .int z2), (0, .ref (gz g + x0))]) F.1 F.2.1 dX3_beginAs_25 hl (k := 1) rfl (by rw [e_z2]; rfl) (by decide) rfl (fun ls hl => ?_)
        refine lv_goto (tgt := 12) F.1 F.2.1 dX3_beginAs_28 (by decide) ?_
        exact hk12 S _ _ _ x0 z2 hr_x0 hk_x0 h I (lv_sub hl [1, 0] rfl)
  refine lv_aload_n F.1 F.2.1 dX3_beginAs_0 rfl (lv_at hl 0 rfl) ?_
  refine lv_iload_n F.1 F.2.1 dX3_beginAs_1 rfl (lv_at hl 1 rfl) ?_
  refine r_putI F I hr_a0 hk_a0 fX3_9 rfl (Or.inl rfl) ⟨rfl, rfl⟩ dX3_beginAs_2 h (fun S H locs I h => ?_)
  refine lv_aload_n F.1 F.2.1 dX3_beginAs_5 rfl (lv_at hl 0 rfl) ?_
  refine lv_iload_n F.1 F.2.1 dX3_beginAs_6 rfl (lv_at hl 2 rfl) ?_
  refine r_putI F I hr_a0 hk_a0 fX3_15 rfl (Or.inl rfl) ⟨rfl, rfl⟩ dX3_beginAs_7 h (fun S H locs I h => ?_)
  refine lv_iconst (v := 0) F.1 F.2.1 dX3_beginAs_10 (by decide) ?_
  refine lv_istore_n (lv' := [(3, .int (0 : Int32)), (0, .ref (gz g + a0)), (1, .int a1), (2, .int a2)]) F.1 F.2.1 dX3_beginAs_11 rfl hl (by decide) rfl (fun ls hl => ?_)
  obtain ⟨n12, h⟩ := h
  exact hl_12 n12 S _ _ _ a0 (0 : Int32) hr_a0 hk_a0 h I (lv_sub hl [1, 0] rfl)
theorem bdX3_become_0 : ∀ q ∈ ([(0, .aload_n 0, 1), (1, .aload_n 1, 1), (2, .getfield 9, 3), (5, .putfield 9, 3), (8, .aload_n 0, 1), (9, .aload_n 1, 1), (10, .getfield 15, 3), (13, .putfield 15, 3), (16, .iconst 0, 1), (17, .istore_n 2, 1), (18, .iload_n 2, 1), (19, .bipush 24, 2), (21, .if_icmp .ge 21, 3), (24, .aload_n 0, 1), (25, .getfield 18, 3), (28, .iload_n 2, 1), (29, .aload_n 1, 1), (30, .getfield 18, 3), (33, .iload_n 2, 1), (34, .iaload, 1), (35, .iastore, 1), (36, .iinc 2 1, 3), (39, .goto (-21), 3), (42, .return_, 1)] : List (Nat × Jvm.ClassFile.Instr × Nat)), decode cX3_become q.1 = .ok q.2 := chk_ok _ 0 _ rfl (by decide +kernel)
theorem dX3_become_0 : decode cX3_become 0 = .ok (.aload_n 0, 1) := bdX3_become_0 (0, .aload_n 0, 1) (List.mem_of_getElem? (i := 0) rfl)
theorem dX3_become_1 : decode cX3_become 1 = .ok (.aload_n 1, 1) := bdX3_become_0 (1, .aload_n 1, 1) (List.mem_of_getElem? (i := 1) rfl)
theorem dX3_become_2 : decode cX3_become 2 = .ok (.getfield 9, 3) := bdX3_become_0 (2, .getfield 9, 3) (List.mem_of_getElem? (i := 2) rfl)
theorem dX3_become_5 : decode cX3_become 5 = .ok (.putfield 9, 3) := bdX3_become_0 (5, .putfield 9, 3) (List.mem_of_getElem? (i := 3) rfl)
theorem dX3_become_8 : decode cX3_become 8 = .ok (.aload_n 0, 1) := bdX3_become_0 (8, .aload_n 0, 1) (List.mem_of_getElem? (i := 4) rfl)
theorem dX3_become_9 : decode cX3_become 9 = .ok (.aload_n 1, 1) := bdX3_become_0 (9, .aload_n 1, 1) (List.mem_of_getElem? (i := 5) rfl)
theorem dX3_become_10 : decode cX3_become 10 = .ok (.getfield 15, 3) := bdX3_become_0 (10, .getfield 15, 3) (List.mem_of_getElem? (i := 6) rfl)
theorem dX3_become_13 : decode cX3_become 13 = .ok (.putfield 15, 3) := bdX3_become_0 (13, .putfield 15, 3) (List.mem_of_getElem? (i := 7) rfl)
theorem dX3_become_16 : decode cX3_become 16 = .ok (.iconst 0, 1) := bdX3_become_0 (16, .iconst 0, 1) (List.mem_of_getElem? (i := 8) rfl)
theorem dX3_become_17 : decode cX3_become 17 = .ok (.istore_n 2, 1) := bdX3_become_0 (17, .istore_n 2, 1) (List.mem_of_getElem? (i := 9) rfl)
theorem dX3_become_18 : decode cX3_become 18 = .ok (.iload_n 2, 1) := bdX3_become_0 (18, .iload_n 2, 1) (List.mem_of_getElem? (i := 10) rfl)
theorem dX3_become_19 : decode cX3_become 19 = .ok (.bipush 24, 2) := bdX3_become_0 (19, .bipush 24, 2) (List.mem_of_getElem? (i := 11) rfl)
theorem dX3_become_21 : decode cX3_become 21 = .ok (.if_icmp .ge 21, 3) := bdX3_become_0 (21, .if_icmp .ge 21, 3) (List.mem_of_getElem? (i := 12) rfl)
theorem dX3_become_24 : decode cX3_become 24 = .ok (.aload_n 0, 1) := bdX3_become_0 (24, .aload_n 0, 1) (List.mem_of_getElem? (i := 13) rfl)
theorem dX3_become_25 : decode cX3_become 25 = .ok (.getfield 18, 3) := bdX3_become_0 (25, .getfield 18, 3) (List.mem_of_getElem? (i := 14) rfl)
theorem dX3_become_28 : decode cX3_become 28 = .ok (.iload_n 2, 1) := bdX3_become_0 (28, .iload_n 2, 1) (List.mem_of_getElem? (i := 15) rfl)
theorem dX3_become_29 : decode cX3_become 29 = .ok (.aload_n 1, 1) := bdX3_become_0 (29, .aload_n 1, 1) (List.mem_of_getElem? (i := 16) rfl)
theorem dX3_become_30 : decode cX3_become 30 = .ok (.getfield 18, 3) := bdX3_become_0 (30, .getfield 18, 3) (List.mem_of_getElem? (i := 17) rfl)
theorem dX3_become_33 : decode cX3_become 33 = .ok (.iload_n 2, 1) := bdX3_become_0 (33, .iload_n 2, 1) (List.mem_of_getElem? (i := 18) rfl)
theorem dX3_become_34 : decode cX3_become 34 = .ok (.iaload, 1) := bdX3_become_0 (34, .iaload, 1) (List.mem_of_getElem? (i := 19) rfl)
theorem dX3_become_35 : decode cX3_become 35 = .ok (.iastore, 1) := bdX3_become_0 (35, .iastore, 1) (List.mem_of_getElem? (i := 20) rfl)
theorem dX3_become_36 : decode cX3_become 36 = .ok (.iinc 2 1, 3) := bdX3_become_0 (36, .iinc 2 1, 3) (List.mem_of_getElem? (i := 21) rfl)
theorem dX3_become_39 : decode cX3_become 39 = .ok (.goto (-21), 3) := bdX3_become_0 (39, .goto (-21), 3) (List.mem_of_getElem? (i := 22) rfl)
theorem dX3_become_42 : decode cX3_become 42 = .ok (.return_, 1) := bdX3_become_0 (42, .return_, 1) (List.mem_of_getElem? (i := 23) rfl)
def LX3_become_18 (ln : Nat → Nat) (post : HC → Prop) : Nat → HC → Nat → Nat → Int32 → Prop
  | 0 => fun _ _ _ _ => False
  | n18 + 1 => fun S x0 x1 x2 => if (24 : Int32) ≤ x2 then (post S) else (dn_ (hR S x0 2) fun b1 => dn_ (hR S x1 2) fun b2 => al_ (ln b2) x2 (hI S b2) fun z3 => as_ (ln b1) x2 (fun j => sI S b1 j z3) fun S => lt_ (x2 + (1 : Int32)) fun z4 => (LX3_become_18 ln post n18) S x0 x1 z4)
def wpX3_become (ln : Nat → Nat) (S : HC) (a0 : Nat) (a1 : Nat) (post : HC → Prop) : Prop := lt_ (hI S a1 0) fun z5 => lt_ (sI S a0 0 z5) fun S => lt_ (hI S a1 1) fun z6 => lt_ (sI S a0 1 z6) fun S => ∃ n18, LX3_become_18 ln post n18 S a0 a1 (0 : Int32)
abbrev rmX3_become : Room := { frames := 0, cells := 0, slots := 0, locals := 0 }
set_option maxHeartbeats 4000000 in
set_option maxRecDepth 100000 in
theorem ctX3_become {l : Launch} {g : GX} {N : Nat} {ln : Nat → Nat} {S : HC} {a0 : Nat} {a1 : Nat} {post : HC → Prop} (hr_a0 : a0 < N) (hk_a0 : kd a0 = 3) (hr_a1 : a1 < N) (hk_a1 : kd a1 = 3) (h : wpX3_become ln S a0 a1 post) : Met l yX3_become (Cond.code yX3_become prog_5_method_3_code 3 (Option.none : Option Jvm.ClassFile.FieldType) :: gtbl) rmX3_become (va_Pc [.ref (gz g + a0), .ref (gz g + a1)] (AtP g N ln S)) (QV g N ln post) 0 0 (gF g) := by
  refine m_of (by decide) (Nat.le_of_ble_eq_true rfl) ?_
  intro p e s m below meth c ls F hr I hl
  have hl : lv_has ls 3 [(0, .ref (gz g + a0)), (1, .ref (gz g + a1))] := hl
  unfold wpX3_become at h
  have hl_18 : ∀ n18 : Nat, ∀ (S : HC) (H : Heap) (locs : List Loc) (ls : Array Slot) (x0 : Nat) (x1 : Nat) (x2 : Int32), x0 < N → kd x0 = 3 → x1 < N → kd x1 = 3 → LX3_become_18 ln post n18 S x0 x1 x2 → Inv g N ln S s H locs → lv_has ls 3 [(0, .ref (gz g + x0)), (1, .ref (gz g + x1)), (2, .int x2)] → W p l e rmX3_become s m ([.ref (gz g + a0), .ref (gz g + a1)] : List Value).toArray below meth c H locs 0 0 (MQ below (QV g N ln post) ([.ref (gz g + a0), .ref (gz g + a1)] : List Value).toArray s 0 0 (gF g)) (F0 m 18 ls []) := by
    intro n18
    induction n18 with
    | zero =>
      intro S H locs ls x0 x1 x2 hr_x0 hk_x0 hr_x1 hk_x1 h I hl
      exact h.elim
    | succ n18 ih =>
      have hk18 := ih
      intro S H locs ls x0 x1 x2 hr_x0 hk_x0 hr_x1 hk_x1 h I hl
      rw [LX3_become_18] at h
      refine lv_iload_n F.1 F.2.1 dX3_become_18 rfl (lv_at hl 2 rfl) ?_
      refine lv_bipush (v := 24) F.1 F.2.1 dX3_become_19 (by decide) ?_
      refine r_icmp_ge (tgt := 42) F dX3_become_21 (by decide) h (fun h => ?_) (fun h => ?_)
      · exact r_vreturn F I ⟨hr.1, hr.2.1, trivial⟩ h dX3_become_42
      · refine lv_aload_n F.1 F.2.1 dX3_become_24 rfl (lv_at hl 0 rfl) ?_
        refine r_getN F I hr_x0 hk_x0 fX3_18 (f := 9) rfl (by decide) dX3_become_25 h (fun b1 hr_b1 hk_b1 h => ?_)
        refine lv_iload_n F.1 F.2.1 dX3_become_28 rfl (lv_at hl 2 rfl) ?_
        refine lv_aload_n F.1 F.2.1 dX3_become_29 rfl (lv_at hl 1 rfl) ?_
        refine r_getN F I hr_x1 hk_x1 fX3_18 (f := 9) rfl (by decide) dX3_become_30 h (fun b2 hr_b2 hk_b2 h => ?_)
        refine lv_iload_n F.1 F.2.1 dX3_become_33 rfl (lv_at hl 2 rfl) ?_
        refine r_ald F I hr_b2 hk_b2 dX3_become_34 h (fun z3 h => ?_)
        refine r_ast F I hr_b1 hk_b1 dX3_become_35 h (fun S H locs I h => ?_)
        obtain ⟨z4, e_z4, h⟩ := lt_x h
        refine lv_iinc (v := z4) (lv' := [(2, .int z4), (0, .ref (gz g + x0)), (1, .ref (gz g + x1))]) F.1 F.2.1 dX3_become_36 hl (k := 2) rfl (by rw [e_z4]; rfl) (by decide) rfl (fun ls hl => ?_)
        refine lv_goto (tgt := 18) F.1 F.2.1 dX3_become_39 (by decide) ?_
        exact hk18 S _ _ _ x0 x1 z4 hr_x0 hk_x0 hr_x1 hk_x1 h I (lv_sub hl [1, 2, 0] rfl)
  refine lv_aload_n F.1 F.2.1 dX3_become_0 rfl (lv_at hl 0 rfl) ?_
  refine lv_aload_n F.1 F.2.1 dX3_become_1 rfl (lv_at hl 1 rfl) ?_
  refine r_getI F I hr_a1 hk_a1 fX3_9 rfl dX3_become_2 h (fun z5 h => ?_)
  refine r_putI F I hr_a0 hk_a0 fX3_9 rfl (Or.inl rfl) ⟨rfl, rfl⟩ dX3_become_5 h (fun S H locs I h => ?_)
  refine lv_aload_n F.1 F.2.1 dX3_become_8 rfl (lv_at hl 0 rfl) ?_
  refine lv_aload_n F.1 F.2.1 dX3_become_9 rfl (lv_at hl 1 rfl) ?_
  refine r_getI F I hr_a1 hk_a1 fX3_15 rfl dX3_become_10 h (fun z6 h => ?_)
  refine r_putI F I hr_a0 hk_a0 fX3_15 rfl (Or.inl rfl) ⟨rfl, rfl⟩ dX3_become_13 h (fun S H locs I h => ?_)
  refine lv_iconst (v := 0) F.1 F.2.1 dX3_become_16 (by decide) ?_
  refine lv_istore_n (lv' := [(2, .int (0 : Int32)), (0, .ref (gz g + a0)), (1, .ref (gz g + a1))]) F.1 F.2.1 dX3_become_17 rfl hl (by decide) rfl (fun ls hl => ?_)
  obtain ⟨n18, h⟩ := h
  exact hl_18 n18 S _ _ _ a0 a1 (0 : Int32) hr_a0 hk_a0 hr_a1 hk_a1 h I (lv_sub hl [1, 2, 0] rfl)
theorem bdX3_isMissing_0 : ∀ q ∈ ([(0, .aload_n 0, 1), (1, .getfield 9, 3), (4, .iconst (-1), 1), (5, .if_icmp .ne 7, 3), (8, .iconst 1, 1), (9, .goto 4, 3), (12, .iconst 0, 1), (13, .ireturn, 1)] : List (Nat × Jvm.ClassFile.Instr × Nat)), decode cX3_isMissing q.1 = .ok q.2 := chk_ok _ 0 _ rfl (by decide +kernel)
theorem dX3_isMissing_0 : decode cX3_isMissing 0 = .ok (.aload_n 0, 1) := bdX3_isMissing_0 (0, .aload_n 0, 1) (List.mem_of_getElem? (i := 0) rfl)
theorem dX3_isMissing_1 : decode cX3_isMissing 1 = .ok (.getfield 9, 3) := bdX3_isMissing_0 (1, .getfield 9, 3) (List.mem_of_getElem? (i := 1) rfl)
theorem dX3_isMissing_4 : decode cX3_isMissing 4 = .ok (.iconst (-1), 1) := bdX3_isMissing_0 (4, .iconst (-1), 1) (List.mem_of_getElem? (i := 2) rfl)
theorem dX3_isMissing_5 : decode cX3_isMissing 5 = .ok (.if_icmp .ne 7, 3) := bdX3_isMissing_0 (5, .if_icmp .ne 7, 3) (List.mem_of_getElem? (i := 3) rfl)
theorem dX3_isMissing_8 : decode cX3_isMissing 8 = .ok (.iconst 1, 1) := bdX3_isMissing_0 (8, .iconst 1, 1) (List.mem_of_getElem? (i := 4) rfl)
theorem dX3_isMissing_9 : decode cX3_isMissing 9 = .ok (.goto 4, 3) := bdX3_isMissing_0 (9, .goto 4, 3) (List.mem_of_getElem? (i := 5) rfl)
theorem dX3_isMissing_12 : decode cX3_isMissing 12 = .ok (.iconst 0, 1) := bdX3_isMissing_0 (12, .iconst 0, 1) (List.mem_of_getElem? (i := 6) rfl)
theorem dX3_isMissing_13 : decode cX3_isMissing 13 = .ok (.ireturn, 1) := bdX3_isMissing_0 (13, .ireturn, 1) (List.mem_of_getElem? (i := 7) rfl)
def wpX3_isMissing (ln : Nat → Nat) (S : HC) (a0 : Nat) (post : Int32 → HC → Prop) : Prop := lt_ (hI S a0 0) fun z1 => if z1 = (-1 : Int32) then (rb_ .boolean (1 : Int32) (post (1 : Int32) S)) else (rb_ .boolean (0 : Int32) (post (0 : Int32) S))
abbrev rmX3_isMissing : Room := { frames := 0, cells := 0, slots := 0, locals := 0 }
set_option maxHeartbeats 4000000 in
set_option maxRecDepth 100000 in
theorem ctX3_isMissing {l : Launch} {g : GX} {N : Nat} {ln : Nat → Nat} {S : HC} {a0 : Nat} {post : Int32 → HC → Prop} (hr_a0 : a0 < N) (hk_a0 : kd a0 = 3) (h : wpX3_isMissing ln S a0 post) : Met l yX3_isMissing (Cond.code yX3_isMissing prog_5_method_4_code 1 (Option.some Jvm.ClassFile.FieldType.boolean) :: gtbl) rmX3_isMissing (va_Pc [.ref (gz g + a0)] (AtP g N ln S)) (QI g N ln post) 0 0 (gF g) := by
  refine m_of (by decide) (Nat.le_of_ble_eq_true rfl) ?_
  intro p e s m below meth c ls F hr I hl
  have hl : lv_has ls 1 [(0, .ref (gz g + a0))] := hl
  unfold wpX3_isMissing at h
  refine lv_aload_n F.1 F.2.1 dX3_isMissing_0 rfl (lv_at hl 0 rfl) ?_
  refine r_getI F I hr_a0 hk_a0 fX3_9 rfl dX3_isMissing_1 h (fun z1 h => ?_)
  refine lv_iconst (v := -1) F.1 F.2.1 dX3_isMissing_4 (by decide) ?_
  refine r_icmp_ne (tgt := 12) F dX3_isMissing_5 (by decide) h (fun h => ?_) (fun h => ?_)
  · refine lv_iconst (v := 0) F.1 F.2.1 dX3_isMissing_12 (by decide) ?_
    exact r_zreturn F I ⟨hr.1, hr.2.1, trivial⟩ h dX3_isMissing_13
  · refine lv_iconst (v := 1) F.1 F.2.1 dX3_isMissing_8 (by decide) ?_
    refine lv_goto (tgt := 13) F.1 F.2.1 dX3_isMissing_9 (by decide) ?_
    exact r_zreturn F I ⟨hr.1, hr.2.1, trivial⟩ h dX3_isMissing_13
theorem bdX3_hasPlace_0 : ∀ q ∈ ([(0, .iload_n 1, 1), (1, .ifCond .lt 21, 3), (4, .iload_n 1, 1), (5, .aload_n 0, 1), (6, .getfield 15, 3), (9, .if_icmp .ge 13, 3), (12, .iload_n 1, 1), (13, .bipush 24, 2), (15, .if_icmp .ge 7, 3), (18, .iconst 1, 1), (19, .goto 4, 3), (22, .iconst 0, 1), (23, .ireturn, 1)] : List (Nat × Jvm.ClassFile.Instr × Nat)), decode cX3_hasPlace q.1 = .ok q.2 := chk_ok _ 0 _ rfl (by decide +kernel)
theorem dX3_hasPlace_0 : decode cX3_hasPlace 0 = .ok (.iload_n 1, 1) := bdX3_hasPlace_0 (0, .iload_n 1, 1) (List.mem_of_getElem? (i := 0) rfl)
theorem dX3_hasPlace_1 : decode cX3_hasPlace 1 = .ok (.ifCond .lt 21, 3) := bdX3_hasPlace_0 (1, .ifCond .lt 21, 3) (List.mem_of_getElem? (i := 1) rfl)
theorem dX3_hasPlace_4 : decode cX3_hasPlace 4 = .ok (.iload_n 1, 1) := bdX3_hasPlace_0 (4, .iload_n 1, 1) (List.mem_of_getElem? (i := 2) rfl)
theorem dX3_hasPlace_5 : decode cX3_hasPlace 5 = .ok (.aload_n 0, 1) := bdX3_hasPlace_0 (5, .aload_n 0, 1) (List.mem_of_getElem? (i := 3) rfl)
theorem dX3_hasPlace_6 : decode cX3_hasPlace 6 = .ok (.getfield 15, 3) := bdX3_hasPlace_0 (6, .getfield 15, 3) (List.mem_of_getElem? (i := 4) rfl)
theorem dX3_hasPlace_9 : decode cX3_hasPlace 9 = .ok (.if_icmp .ge 13, 3) := bdX3_hasPlace_0 (9, .if_icmp .ge 13, 3) (List.mem_of_getElem? (i := 5) rfl)
theorem dX3_hasPlace_12 : decode cX3_hasPlace 12 = .ok (.iload_n 1, 1) := bdX3_hasPlace_0 (12, .iload_n 1, 1) (List.mem_of_getElem? (i := 6) rfl)
theorem dX3_hasPlace_13 : decode cX3_hasPlace 13 = .ok (.bipush 24, 2) := bdX3_hasPlace_0 (13, .bipush 24, 2) (List.mem_of_getElem? (i := 7) rfl)
theorem dX3_hasPlace_15 : decode cX3_hasPlace 15 = .ok (.if_icmp .ge 7, 3) := bdX3_hasPlace_0 (15, .if_icmp .ge 7, 3) (List.mem_of_getElem? (i := 8) rfl)
theorem dX3_hasPlace_18 : decode cX3_hasPlace 18 = .ok (.iconst 1, 1) := bdX3_hasPlace_0 (18, .iconst 1, 1) (List.mem_of_getElem? (i := 9) rfl)
theorem dX3_hasPlace_19 : decode cX3_hasPlace 19 = .ok (.goto 4, 3) := bdX3_hasPlace_0 (19, .goto 4, 3) (List.mem_of_getElem? (i := 10) rfl)
theorem dX3_hasPlace_22 : decode cX3_hasPlace 22 = .ok (.iconst 0, 1) := bdX3_hasPlace_0 (22, .iconst 0, 1) (List.mem_of_getElem? (i := 11) rfl)
theorem dX3_hasPlace_23 : decode cX3_hasPlace 23 = .ok (.ireturn, 1) := bdX3_hasPlace_0 (23, .ireturn, 1) (List.mem_of_getElem? (i := 12) rfl)
def BX3_hasPlace_22 (ln : Nat → Nat) (post : Int32 → HC → Prop) (S : HC)  : Prop := rb_ .boolean (0 : Int32) (post (0 : Int32) S)
def wpX3_hasPlace (ln : Nat → Nat) (S : HC) (a0 : Nat) (a1 : Int32) (post : Int32 → HC → Prop) : Prop := if a1 < 0 then (BX3_hasPlace_22 ln post S) else (lt_ (hI S a0 1) fun z1 => if z1 ≤ a1 then (BX3_hasPlace_22 ln post S) else (if (24 : Int32) ≤ a1 then (BX3_hasPlace_22 ln post S) else (rb_ .boolean (1 : Int32) (post (1 : Int32) S))))
abbrev rmX3_hasPlace : Room := { frames := 0, cells := 0, slots := 0, locals := 0 }
set_option maxHeartbeats 4000000 in
set_option maxRecDepth 100000 in
theorem ctX3_hasPlace {l : Launch} {g : GX} {N : Nat} {ln : Nat → Nat} {S : HC} {a0 : Nat} {a1 : Int32} {post : Int32 → HC → Prop} (hr_a0 : a0 < N) (hk_a0 : kd a0 = 3) (h : wpX3_hasPlace ln S a0 a1 post) : Met l yX3_hasPlace (Cond.code yX3_hasPlace prog_5_method_5_code 2 (Option.some Jvm.ClassFile.FieldType.boolean) :: gtbl) rmX3_hasPlace (va_Pc [.ref (gz g + a0), .int a1] (AtP g N ln S)) (QI g N ln post) 0 0 (gF g) := by
  refine m_of (by decide) (Nat.le_of_ble_eq_true rfl) ?_
  intro p e s m below meth c ls F hr I hl
  have hl : lv_has ls 2 [(0, .ref (gz g + a0)), (1, .int a1)] := hl
  unfold wpX3_hasPlace at h
  have hj_22 : ∀ (S : HC) (H : Heap) (locs : List Loc) (ls : Array Slot), BX3_hasPlace_22 ln post S  → Inv g N ln S s H locs → lv_has ls 2 [] → W p l e rmX3_hasPlace s m ([.ref (gz g + a0), .int a1] : List Value).toArray below meth c H locs 0 0 (MQ below (QI g N ln post) ([.ref (gz g + a0), .int a1] : List Value).toArray s 0 0 (gF g)) (F0 m 22 ls []) := by
    intro S H locs ls h I hl
    unfold BX3_hasPlace_22 at h
    refine lv_iconst (v := 0) F.1 F.2.1 dX3_hasPlace_22 (by decide) ?_
    exact r_zreturn F I ⟨hr.1, hr.2.1, trivial⟩ h dX3_hasPlace_23
  refine lv_iload_n F.1 F.2.1 dX3_hasPlace_0 rfl (lv_at hl 1 rfl) ?_
  refine r_if_lt (tgt := 22) F dX3_hasPlace_1 (by decide) h (fun h => ?_) (fun h => ?_)
  · exact hj_22 S _ _ _   h I (lv_sub hl [] rfl)
  · refine lv_iload_n F.1 F.2.1 dX3_hasPlace_4 rfl (lv_at hl 1 rfl) ?_
    refine lv_aload_n F.1 F.2.1 dX3_hasPlace_5 rfl (lv_at hl 0 rfl) ?_
    refine r_getI F I hr_a0 hk_a0 fX3_15 rfl dX3_hasPlace_6 h (fun z1 h => ?_)
    refine r_icmp_ge (tgt := 22) F dX3_hasPlace_9 (by decide) h (fun h => ?_) (fun h => ?_)
    · exact hj_22 S _ _ _   h I (lv_sub hl [] rfl)
    · refine lv_iload_n F.1 F.2.1 dX3_hasPlace_12 rfl (lv_at hl 1 rfl) ?_
      refine lv_bipush (v := 24) F.1 F.2.1 dX3_hasPlace_13 (by decide) ?_
      refine r_icmp_ge (tgt := 22) F dX3_hasPlace_15 (by decide) h (fun h => ?_) (fun h => ?_)
      · exact hj_22 S _ _ _   h I (lv_sub hl [] rfl)
      · refine lv_iconst (v := 1) F.1 F.2.1 dX3_hasPlace_18 (by decide) ?_
        refine lv_goto (tgt := 23) F.1 F.2.1 dX3_hasPlace_19 (by decide) ?_
        exact r_zreturn F I ⟨hr.1, hr.2.1, trivial⟩ h dX3_hasPlace_23
theorem bdX3_hasSpan_0 : ∀ q ∈ ([(0, .iload_n 1, 1), (1, .ifCond .lt 29, 3), (4, .iload_n 2, 1), (5, .ifCond .lt 25, 3), (8, .iload_n 2, 1), (9, .aload_n 0, 1), (10, .getfield 15, 3), (13, .if_icmp .gt 17, 3), (16, .iload_n 1, 1), (17, .aload_n 0, 1), (18, .getfield 15, 3), (21, .iload_n 2, 1), (22, .isub, 1), (23, .if_icmp .gt 7, 3), (26, .iconst 1, 1), (27, .goto 4, 3), (30, .iconst 0, 1), (31, .ireturn, 1)] : List (Nat × Jvm.ClassFile.Instr × Nat)), decode cX3_hasSpan q.1 = .ok q.2 := chk_ok _ 0 _ rfl (by decide +kernel)
theorem dX3_hasSpan_0 : decode cX3_hasSpan 0 = .ok (.iload_n 1, 1) := bdX3_hasSpan_0 (0, .iload_n 1, 1) (List.mem_of_getElem? (i := 0) rfl)
theorem dX3_hasSpan_1 : decode cX3_hasSpan 1 = .ok (.ifCond .lt 29, 3) := bdX3_hasSpan_0 (1, .ifCond .lt 29, 3) (List.mem_of_getElem? (i := 1) rfl)
theorem dX3_hasSpan_4 : decode cX3_hasSpan 4 = .ok (.iload_n 2, 1) := bdX3_hasSpan_0 (4, .iload_n 2, 1) (List.mem_of_getElem? (i := 2) rfl)
theorem dX3_hasSpan_5 : decode cX3_hasSpan 5 = .ok (.ifCond .lt 25, 3) := bdX3_hasSpan_0 (5, .ifCond .lt 25, 3) (List.mem_of_getElem? (i := 3) rfl)
theorem dX3_hasSpan_8 : decode cX3_hasSpan 8 = .ok (.iload_n 2, 1) := bdX3_hasSpan_0 (8, .iload_n 2, 1) (List.mem_of_getElem? (i := 4) rfl)
theorem dX3_hasSpan_9 : decode cX3_hasSpan 9 = .ok (.aload_n 0, 1) := bdX3_hasSpan_0 (9, .aload_n 0, 1) (List.mem_of_getElem? (i := 5) rfl)
theorem dX3_hasSpan_10 : decode cX3_hasSpan 10 = .ok (.getfield 15, 3) := bdX3_hasSpan_0 (10, .getfield 15, 3) (List.mem_of_getElem? (i := 6) rfl)
theorem dX3_hasSpan_13 : decode cX3_hasSpan 13 = .ok (.if_icmp .gt 17, 3) := bdX3_hasSpan_0 (13, .if_icmp .gt 17, 3) (List.mem_of_getElem? (i := 7) rfl)
theorem dX3_hasSpan_16 : decode cX3_hasSpan 16 = .ok (.iload_n 1, 1) := bdX3_hasSpan_0 (16, .iload_n 1, 1) (List.mem_of_getElem? (i := 8) rfl)
theorem dX3_hasSpan_17 : decode cX3_hasSpan 17 = .ok (.aload_n 0, 1) := bdX3_hasSpan_0 (17, .aload_n 0, 1) (List.mem_of_getElem? (i := 9) rfl)
theorem dX3_hasSpan_18 : decode cX3_hasSpan 18 = .ok (.getfield 15, 3) := bdX3_hasSpan_0 (18, .getfield 15, 3) (List.mem_of_getElem? (i := 10) rfl)
theorem dX3_hasSpan_21 : decode cX3_hasSpan 21 = .ok (.iload_n 2, 1) := bdX3_hasSpan_0 (21, .iload_n 2, 1) (List.mem_of_getElem? (i := 11) rfl)
theorem dX3_hasSpan_22 : decode cX3_hasSpan 22 = .ok (.isub, 1) := bdX3_hasSpan_0 (22, .isub, 1) (List.mem_of_getElem? (i := 12) rfl)
theorem dX3_hasSpan_23 : decode cX3_hasSpan 23 = .ok (.if_icmp .gt 7, 3) := bdX3_hasSpan_0 (23, .if_icmp .gt 7, 3) (List.mem_of_getElem? (i := 13) rfl)
theorem dX3_hasSpan_26 : decode cX3_hasSpan 26 = .ok (.iconst 1, 1) := bdX3_hasSpan_0 (26, .iconst 1, 1) (List.mem_of_getElem? (i := 14) rfl)
theorem dX3_hasSpan_27 : decode cX3_hasSpan 27 = .ok (.goto 4, 3) := bdX3_hasSpan_0 (27, .goto 4, 3) (List.mem_of_getElem? (i := 15) rfl)
theorem dX3_hasSpan_30 : decode cX3_hasSpan 30 = .ok (.iconst 0, 1) := bdX3_hasSpan_0 (30, .iconst 0, 1) (List.mem_of_getElem? (i := 16) rfl)
theorem dX3_hasSpan_31 : decode cX3_hasSpan 31 = .ok (.ireturn, 1) := bdX3_hasSpan_0 (31, .ireturn, 1) (List.mem_of_getElem? (i := 17) rfl)
def BX3_hasSpan_30 (ln : Nat → Nat) (post : Int32 → HC → Prop) (S : HC)  : Prop := rb_ .boolean (0 : Int32) (post (0 : Int32) S)
def wpX3_hasSpan (ln : Nat → Nat) (S : HC) (a0 : Nat) (a1 : Int32) (a2 : Int32) (post : Int32 → HC → Prop) : Prop := if a1 < 0 then (BX3_hasSpan_30 ln post S) else (if a2 < 0 then (BX3_hasSpan_30 ln post S) else (lt_ (hI S a0 1) fun z1 => if z1 < a2 then (BX3_hasSpan_30 ln post S) else (lt_ (hI S a0 1) fun z2 => lt_ (z2 - a2) fun z3 => if z3 < a1 then (BX3_hasSpan_30 ln post S) else (rb_ .boolean (1 : Int32) (post (1 : Int32) S)))))
abbrev rmX3_hasSpan : Room := { frames := 0, cells := 0, slots := 0, locals := 0 }
set_option maxHeartbeats 4000000 in
set_option maxRecDepth 100000 in
theorem ctX3_hasSpan {l : Launch} {g : GX} {N : Nat} {ln : Nat → Nat} {S : HC} {a0 : Nat} {a1 : Int32} {a2 : Int32} {post : Int32 → HC → Prop} (hr_a0 : a0 < N) (hk_a0 : kd a0 = 3) (h : wpX3_hasSpan ln S a0 a1 a2 post) : Met l yX3_hasSpan (Cond.code yX3_hasSpan prog_5_method_6_code 3 (Option.some Jvm.ClassFile.FieldType.boolean) :: gtbl) rmX3_hasSpan (va_Pc [.ref (gz g + a0), .int a1, .int a2] (AtP g N ln S)) (QI g N ln post) 0 0 (gF g) := by
  refine m_of (by decide) (Nat.le_of_ble_eq_true rfl) ?_
  intro p e s m below meth c ls F hr I hl
  have hl : lv_has ls 3 [(0, .ref (gz g + a0)), (1, .int a1), (2, .int a2)] := hl
  unfold wpX3_hasSpan at h
  have hj_30 : ∀ (S : HC) (H : Heap) (locs : List Loc) (ls : Array Slot), BX3_hasSpan_30 ln post S  → Inv g N ln S s H locs → lv_has ls 3 [] → W p l e rmX3_hasSpan s m ([.ref (gz g + a0), .int a1, .int a2] : List Value).toArray below meth c H locs 0 0 (MQ below (QI g N ln post) ([.ref (gz g + a0), .int a1, .int a2] : List Value).toArray s 0 0 (gF g)) (F0 m 30 ls []) := by
    intro S H locs ls h I hl
    unfold BX3_hasSpan_30 at h
    refine lv_iconst (v := 0) F.1 F.2.1 dX3_hasSpan_30 (by decide) ?_
    exact r_zreturn F I ⟨hr.1, hr.2.1, trivial⟩ h dX3_hasSpan_31
  refine lv_iload_n F.1 F.2.1 dX3_hasSpan_0 rfl (lv_at hl 1 rfl) ?_
  refine r_if_lt (tgt := 30) F dX3_hasSpan_1 (by decide) h (fun h => ?_) (fun h => ?_)
  · exact hj_30 S _ _ _   h I (lv_sub hl [] rfl)
  · refine lv_iload_n F.1 F.2.1 dX3_hasSpan_4 rfl (lv_at hl 2 rfl) ?_
    refine r_if_lt (tgt := 30) F dX3_hasSpan_5 (by decide) h (fun h => ?_) (fun h => ?_)
    · exact hj_30 S _ _ _   h I (lv_sub hl [] rfl)
    · refine lv_iload_n F.1 F.2.1 dX3_hasSpan_8 rfl (lv_at hl 2 rfl) ?_
      refine lv_aload_n F.1 F.2.1 dX3_hasSpan_9 rfl (lv_at hl 0 rfl) ?_
      refine r_getI F I hr_a0 hk_a0 fX3_15 rfl dX3_hasSpan_10 h (fun z1 h => ?_)
      refine r_icmp_gt (tgt := 30) F dX3_hasSpan_13 (by decide) h (fun h => ?_) (fun h => ?_)
      · exact hj_30 S _ _ _   h I (lv_sub hl [] rfl)
      · refine lv_iload_n F.1 F.2.1 dX3_hasSpan_16 rfl (lv_at hl 1 rfl) ?_
        refine lv_aload_n F.1 F.2.1 dX3_hasSpan_17 rfl (lv_at hl 0 rfl) ?_
        refine r_getI F I hr_a0 hk_a0 fX3_15 rfl dX3_hasSpan_18 h (fun z2 h => ?_)
        refine lv_iload_n F.1 F.2.1 dX3_hasSpan_21 rfl (lv_at hl 2 rfl) ?_
        refine r_isub F dX3_hasSpan_22 h (fun z3 h => ?_)
        refine r_icmp_gt (tgt := 30) F dX3_hasSpan_23 (by decide) h (fun h => ?_) (fun h => ?_)
        · exact hj_30 S _ _ _   h I (lv_sub hl [] rfl)
        · refine lv_iconst (v := 1) F.1 F.2.1 dX3_hasSpan_26 (by decide) ?_
          refine lv_goto (tgt := 31) F.1 F.2.1 dX3_hasSpan_27 (by decide) ?_
          exact r_zreturn F I ⟨hr.1, hr.2.1, trivial⟩ h dX3_hasSpan_31
theorem bdX3_isNumber_0 : ∀ q ∈ ([(0, .aload_n 0, 1), (1, .iload_n 1, 1), (2, .invokevirtual 22, 3), (5, .ifCond .eq 18, 3), (8, .aload_n 0, 1), (9, .getfield 18, 3), (12, .iload_n 1, 1), (13, .iaload, 1), (14, .ldc 26, 2), (16, .if_icmp .eq 7, 3), (19, .iconst 1, 1), (20, .goto 4, 3), (23, .iconst 0, 1), (24, .ireturn, 1)] : List (Nat × Jvm.ClassFile.Instr × Nat)), decode cX3_isNumber q.1 = .ok q.2 := chk_ok _ 0 _ rfl (by decide +kernel)
theorem dX3_isNumber_0 : decode cX3_isNumber 0 = .ok (.aload_n 0, 1) := bdX3_isNumber_0 (0, .aload_n 0, 1) (List.mem_of_getElem? (i := 0) rfl)
theorem dX3_isNumber_1 : decode cX3_isNumber 1 = .ok (.iload_n 1, 1) := bdX3_isNumber_0 (1, .iload_n 1, 1) (List.mem_of_getElem? (i := 1) rfl)
theorem dX3_isNumber_2 : decode cX3_isNumber 2 = .ok (.invokevirtual 22, 3) := bdX3_isNumber_0 (2, .invokevirtual 22, 3) (List.mem_of_getElem? (i := 2) rfl)
theorem dX3_isNumber_5 : decode cX3_isNumber 5 = .ok (.ifCond .eq 18, 3) := bdX3_isNumber_0 (5, .ifCond .eq 18, 3) (List.mem_of_getElem? (i := 3) rfl)
theorem dX3_isNumber_8 : decode cX3_isNumber 8 = .ok (.aload_n 0, 1) := bdX3_isNumber_0 (8, .aload_n 0, 1) (List.mem_of_getElem? (i := 4) rfl)
theorem dX3_isNumber_9 : decode cX3_isNumber 9 = .ok (.getfield 18, 3) := bdX3_isNumber_0 (9, .getfield 18, 3) (List.mem_of_getElem? (i := 5) rfl)
theorem dX3_isNumber_12 : decode cX3_isNumber 12 = .ok (.iload_n 1, 1) := bdX3_isNumber_0 (12, .iload_n 1, 1) (List.mem_of_getElem? (i := 6) rfl)
theorem dX3_isNumber_13 : decode cX3_isNumber 13 = .ok (.iaload, 1) := bdX3_isNumber_0 (13, .iaload, 1) (List.mem_of_getElem? (i := 7) rfl)
theorem dX3_isNumber_14 : decode cX3_isNumber 14 = .ok (.ldc 26, 2) := bdX3_isNumber_0 (14, .ldc 26, 2) (List.mem_of_getElem? (i := 8) rfl)
theorem dX3_isNumber_16 : decode cX3_isNumber 16 = .ok (.if_icmp .eq 7, 3) := bdX3_isNumber_0 (16, .if_icmp .eq 7, 3) (List.mem_of_getElem? (i := 9) rfl)
theorem dX3_isNumber_19 : decode cX3_isNumber 19 = .ok (.iconst 1, 1) := bdX3_isNumber_0 (19, .iconst 1, 1) (List.mem_of_getElem? (i := 10) rfl)
theorem dX3_isNumber_20 : decode cX3_isNumber 20 = .ok (.goto 4, 3) := bdX3_isNumber_0 (20, .goto 4, 3) (List.mem_of_getElem? (i := 11) rfl)
theorem dX3_isNumber_23 : decode cX3_isNumber 23 = .ok (.iconst 0, 1) := bdX3_isNumber_0 (23, .iconst 0, 1) (List.mem_of_getElem? (i := 12) rfl)
theorem dX3_isNumber_24 : decode cX3_isNumber 24 = .ok (.ireturn, 1) := bdX3_isNumber_0 (24, .ireturn, 1) (List.mem_of_getElem? (i := 13) rfl)
theorem kX3_22 : mthV RX3 22 3 yX3_hasPlace prog_5_method_5_code 2 (Option.some Jvm.ClassFile.FieldType.boolean) 1 := ⟨⟨⟨tw_602, tw_65, tw_605⟩, rfl, by decide +kernel⟩, tw_603, tw_604, rfl⟩
def BX3_isNumber_23 (ln : Nat → Nat) (post : Int32 → HC → Prop) (S : HC)  : Prop := rb_ .boolean (0 : Int32) (post (0 : Int32) S)
def wpX3_isNumber (ln : Nat → Nat) (S : HC) (a0 : Nat) (a1 : Int32) (post : Int32 → HC → Prop) : Prop := wpX3_hasPlace ln S a0 a1 fun z1 S => if z1 = 0 then (BX3_isNumber_23 ln post S) else (dn_ (hR S a0 2) fun b2 => al_ (ln b2) a1 (hI S b2) fun z3 => if z3 = (-1000000005 : Int32) then (BX3_isNumber_23 ln post S) else (rb_ .boolean (1 : Int32) (post (1 : Int32) S)))
abbrev rmX3_isNumber : Room := { frames := 1, cells := 0, slots := 0, locals := 21 }
set_option maxHeartbeats 4000000 in
set_option maxRecDepth 100000 in
theorem ctX3_isNumber {l : Launch} {g : GX} {N : Nat} {ln : Nat → Nat} {S : HC} {a0 : Nat} {a1 : Int32} {post : Int32 → HC → Prop} (hr_a0 : a0 < N) (hk_a0 : kd a0 = 3) (h : wpX3_isNumber ln S a0 a1 post) : Met l yX3_isNumber (Cond.code yX3_isNumber prog_5_method_7_code 2 (Option.some Jvm.ClassFile.FieldType.boolean) :: gtbl) rmX3_isNumber (va_Pc [.ref (gz g + a0), .int a1] (AtP g N ln S)) (QI g N ln post) 0 0 (gF g) := by
  refine m_of (by decide) (Nat.le_of_ble_eq_true rfl) ?_
  intro p e s m below meth c ls F hr I hl
  have hl : lv_has ls 2 [(0, .ref (gz g + a0)), (1, .int a1)] := hl
  unfold wpX3_isNumber at h
  have hj_23 : ∀ (S : HC) (H : Heap) (locs : List Loc) (ls : Array Slot), BX3_isNumber_23 ln post S  → Inv g N ln S s H locs → lv_has ls 2 [] → W p l e rmX3_isNumber s m ([.ref (gz g + a0), .int a1] : List Value).toArray below meth c H locs 0 0 (MQ below (QI g N ln post) ([.ref (gz g + a0), .int a1] : List Value).toArray s 0 0 (gF g)) (F0 m 23 ls []) := by
    intro S H locs ls h I hl
    unfold BX3_isNumber_23 at h
    refine lv_iconst (v := 0) F.1 F.2.1 dX3_isNumber_23 (by decide) ?_
    exact r_zreturn F I ⟨hr.1, hr.2.1, trivial⟩ h dX3_isNumber_24
  refine lv_aload_n F.1 F.2.1 dX3_isNumber_0 rfl (lv_at hl 0 rfl) ?_
  refine lv_iload_n F.1 F.2.1 dX3_isNumber_1 rfl (lv_at hl 1 rfl) ?_
  refine g_I I (run_V (As := [.int a1]) (rest := []) F I hr_a0 hk_a0 (by decide) kX3_22 (ctX3_hasPlace hr_a0 hk_a0 h) ⟨rfl, rfl⟩ ⟨Nat.le_of_ble_eq_true rfl, Nat.le_of_ble_eq_true rfl⟩ rfl hl.1 rfl (Nat.le_of_ble_eq_true rfl) ⟨Nat.le_of_ble_eq_true rfl, Nat.le_of_ble_eq_true rfl⟩ dX3_isNumber_2) (fun z1 S H locs I h => ?_)
  refine r_if_eq (tgt := 23) F dX3_isNumber_5 (by decide) h (fun h => ?_) (fun h => ?_)
  · exact hj_23 S _ _ _   h I (lv_sub hl [] rfl)
  · refine lv_aload_n F.1 F.2.1 dX3_isNumber_8 rfl (lv_at hl 0 rfl) ?_
    refine r_getN F I hr_a0 hk_a0 fX3_18 (f := 9) rfl (by decide) dX3_isNumber_9 h (fun b2 hr_b2 hk_b2 h => ?_)
    refine lv_iload_n F.1 F.2.1 dX3_isNumber_12 rfl (lv_at hl 1 rfl) ?_
    refine r_ald F I hr_b2 hk_b2 dX3_isNumber_13 h (fun z3 h => ?_)
    refine lv_ldc F.1 F.2.1 F.2.2.2.1 (F.2.2.2.2 _ tw_606) dX3_isNumber_14 ?_
    refine r_icmp_eq (tgt := 23) F dX3_isNumber_16 (by decide) h (fun h => ?_) (fun h => ?_)
    · exact hj_23 S _ _ _   h I (lv_sub hl [] rfl)
    · refine lv_iconst (v := 1) F.1 F.2.1 dX3_isNumber_19 (by decide) ?_
      refine lv_goto (tgt := 24) F.1 F.2.1 dX3_isNumber_20 (by decide) ?_
      exact r_zreturn F I ⟨hr.1, hr.2.1, trivial⟩ h dX3_isNumber_24
theorem bdX6_take_0 : ∀ q ∈ ([(0, .bipush 24, 2), (2, .istore_n 2, 1), (3, .iload_n 2, 1), (4, .ifCond .lt 51, 3), (7, .aload_n 0, 1), (8, .getfield 15, 3), (11, .ifCond .lt 38, 3), (14, .aload_n 0, 1), (15, .getfield 15, 3), (18, .bipush 96, 2), (20, .if_icmp .ge 29, 3), (23, .aload_n 0, 1), (24, .getfield 9, 3), (27, .aload_n 0, 1), (28, .getfield 15, 3), (31, .iload_n 1, 1), (32, .iload_n 2, 1), (34, .sipush 255, 3), (37, .iand, 1), (38, .iastore, 1), (39, .aload_n 0, 1), (40, .dup, 1), (41, .getfield 15, 3), (44, .iconst 1, 1), (45, .iadd, 1), (46, .putfield 15, 3), (49, .iinc 2 (-8), 3), (52, .goto (-49), 3), (55, .return_, 1)] : List (Nat × Jvm.ClassFile.Instr × Nat)), decode cX6_take q.1 = .ok q.2 := chk_ok _ 0 _ rfl (by decide +kernel)
theorem dX6_take_0 : decode cX6_take 0 = .ok (.bipush 24, 2) := bdX6_take_0 (0, .bipush 24, 2) (List.mem_of_getElem? (i := 0) rfl)
theorem dX6_take_2 : decode cX6_take 2 = .ok (.istore_n 2, 1) := bdX6_take_0 (2, .istore_n 2, 1) (List.mem_of_getElem? (i := 1) rfl)
theorem dX6_take_3 : decode cX6_take 3 = .ok (.iload_n 2, 1) := bdX6_take_0 (3, .iload_n 2, 1) (List.mem_of_getElem? (i := 2) rfl)
theorem dX6_take_4 : decode cX6_take 4 = .ok (.ifCond .lt 51, 3) := bdX6_take_0 (4, .ifCond .lt 51, 3) (List.mem_of_getElem? (i := 3) rfl)
theorem dX6_take_7 : decode cX6_take 7 = .ok (.aload_n 0, 1) := bdX6_take_0 (7, .aload_n 0, 1) (List.mem_of_getElem? (i := 4) rfl)
theorem dX6_take_8 : decode cX6_take 8 = .ok (.getfield 15, 3) := bdX6_take_0 (8, .getfield 15, 3) (List.mem_of_getElem? (i := 5) rfl)
theorem dX6_take_11 : decode cX6_take 11 = .ok (.ifCond .lt 38, 3) := bdX6_take_0 (11, .ifCond .lt 38, 3) (List.mem_of_getElem? (i := 6) rfl)
theorem dX6_take_14 : decode cX6_take 14 = .ok (.aload_n 0, 1) := bdX6_take_0 (14, .aload_n 0, 1) (List.mem_of_getElem? (i := 7) rfl)
theorem dX6_take_15 : decode cX6_take 15 = .ok (.getfield 15, 3) := bdX6_take_0 (15, .getfield 15, 3) (List.mem_of_getElem? (i := 8) rfl)
theorem dX6_take_18 : decode cX6_take 18 = .ok (.bipush 96, 2) := bdX6_take_0 (18, .bipush 96, 2) (List.mem_of_getElem? (i := 9) rfl)
theorem dX6_take_20 : decode cX6_take 20 = .ok (.if_icmp .ge 29, 3) := bdX6_take_0 (20, .if_icmp .ge 29, 3) (List.mem_of_getElem? (i := 10) rfl)
theorem dX6_take_23 : decode cX6_take 23 = .ok (.aload_n 0, 1) := bdX6_take_0 (23, .aload_n 0, 1) (List.mem_of_getElem? (i := 11) rfl)
theorem dX6_take_24 : decode cX6_take 24 = .ok (.getfield 9, 3) := bdX6_take_0 (24, .getfield 9, 3) (List.mem_of_getElem? (i := 12) rfl)
theorem dX6_take_27 : decode cX6_take 27 = .ok (.aload_n 0, 1) := bdX6_take_0 (27, .aload_n 0, 1) (List.mem_of_getElem? (i := 13) rfl)
theorem dX6_take_28 : decode cX6_take 28 = .ok (.getfield 15, 3) := bdX6_take_0 (28, .getfield 15, 3) (List.mem_of_getElem? (i := 14) rfl)
theorem dX6_take_31 : decode cX6_take 31 = .ok (.iload_n 1, 1) := bdX6_take_0 (31, .iload_n 1, 1) (List.mem_of_getElem? (i := 15) rfl)
theorem dX6_take_32 : decode cX6_take 32 = .ok (.iload_n 2, 1) := bdX6_take_0 (32, .iload_n 2, 1) (List.mem_of_getElem? (i := 16) rfl)
theorem dX6_take_34 : decode cX6_take 34 = .ok (.sipush 255, 3) := bdX6_take_0 (34, .sipush 255, 3) (List.mem_of_getElem? (i := 17) rfl)
theorem dX6_take_37 : decode cX6_take 37 = .ok (.iand, 1) := bdX6_take_0 (37, .iand, 1) (List.mem_of_getElem? (i := 18) rfl)
theorem dX6_take_38 : decode cX6_take 38 = .ok (.iastore, 1) := bdX6_take_0 (38, .iastore, 1) (List.mem_of_getElem? (i := 19) rfl)
theorem dX6_take_39 : decode cX6_take 39 = .ok (.aload_n 0, 1) := bdX6_take_0 (39, .aload_n 0, 1) (List.mem_of_getElem? (i := 20) rfl)
theorem dX6_take_40 : decode cX6_take 40 = .ok (.dup, 1) := bdX6_take_0 (40, .dup, 1) (List.mem_of_getElem? (i := 21) rfl)
theorem dX6_take_41 : decode cX6_take 41 = .ok (.getfield 15, 3) := bdX6_take_0 (41, .getfield 15, 3) (List.mem_of_getElem? (i := 22) rfl)
theorem dX6_take_44 : decode cX6_take 44 = .ok (.iconst 1, 1) := bdX6_take_0 (44, .iconst 1, 1) (List.mem_of_getElem? (i := 23) rfl)
theorem dX6_take_45 : decode cX6_take 45 = .ok (.iadd, 1) := bdX6_take_0 (45, .iadd, 1) (List.mem_of_getElem? (i := 24) rfl)
theorem dX6_take_46 : decode cX6_take 46 = .ok (.putfield 15, 3) := bdX6_take_0 (46, .putfield 15, 3) (List.mem_of_getElem? (i := 25) rfl)
theorem dX6_take_49 : decode cX6_take 49 = .ok (.iinc 2 (-8), 3) := bdX6_take_0 (49, .iinc 2 (-8), 3) (List.mem_of_getElem? (i := 26) rfl)
theorem dX6_take_52 : decode cX6_take 52 = .ok (.goto (-49), 3) := bdX6_take_0 (52, .goto (-49), 3) (List.mem_of_getElem? (i := 27) rfl)
theorem dX6_take_55 : decode cX6_take 55 = .ok (.return_, 1) := bdX6_take_0 (55, .return_, 1) (List.mem_of_getElem? (i := 28) rfl)
theorem dX6_take_33 : decode cX6_take 33 = .ok (.iushr, 1) := by decide +kernel
theorem fX6_15 : fldOK RX6 15 6 1 .int false := ⟨_, _, _, tyX6, ⟨rfl, iX6, by decide, rfl, by decide⟩, tw_190, ⟨tyX6_ok, nmX6⟩, by decide +kernel, rfl, rfl⟩
theorem fX6_9 : fldOK RX6 9 6 0 (.array .int) true := ⟨_, _, _, tyX6, ⟨rfl, iX6, by decide, rfl, by decide⟩, tw_189, ⟨tyX6_ok, nmX6⟩, by decide +kernel, rfl, rfl⟩
def BX6_take_49 (ln : Nat → Nat) (post : HC → Prop) (K3 : HC → Nat → Int32 → Int32 → Prop) (S : HC) (x0 : Nat) (x1 : Int32) (x2 : Int32) : Prop := lt_ (x2 + (-8 : Int32)) fun z1 => K3 S x0 x1 z1
def LX6_take_3 (ln : Nat → Nat) (post : HC → Prop) : Nat → HC → Nat → Int32 → Int32 → Prop
  | 0 => fun _ _ _ _ => False
  | n3 + 1 => fun S x0 x1 x2 => if x2 < 0 then (post S) else (lt_ (hI S x0 1) fun z2 => if z2 < 0 then (BX6_take_49 ln post (LX6_take_3 ln post n3) S x0 x1 x2) else (lt_ (hI S x0 1) fun z3 => if (96 : Int32) ≤ z3 then (BX6_take_49 ln post (LX6_take_3 ln post n3) S x0 x1 x2) else (dn_ (hR S x0 0) fun b4 => lt_ (hI S x0 1) fun z5 => lt_ ((x1.toUInt32 >>> (x2.toUInt32 &&& Int32.toUInt32 31)).toInt32) fun z6 => lt_ (z6 &&& (255 : Int32)) fun z7 => as_ (ln b4) z5 (fun j => sI S b4 j z7) fun S => lt_ (hI S x0 1) fun z8 => lt_ (z8 + (1 : Int32)) fun z9 => lt_ (sI S x0 1 z9) fun S => BX6_take_49 ln post (LX6_take_3 ln post n3) S x0 x1 x2)))
def wpX6_take (ln : Nat → Nat) (S : HC) (a0 : Nat) (a1 : Int32) (post : HC → Prop) : Prop := ∃ n3, LX6_take_3 ln post n3 S a0 a1 (24 : Int32)
abbrev rmX6_take : Room := { frames := 0, cells := 0, slots := 0, locals := 0 }
set_option maxHeartbeats 4000000 in
set_option maxRecDepth 100000 in
theorem ctX6_take {l : Launch} {g : GX} {N : Nat} {ln : Nat → Nat} {S : HC} {a0 : Nat} {a1 : Int32} {post : HC → Prop} (hr_a0 : a0 < N) (hk_a0 : kd a0 = 6) (h : wpX6_take ln S a0 a1 post) : Met l yX6_take (Cond.code yX6_take prog_8_method_2_code 3 (Option.none : Option Jvm.ClassFile.FieldType) :: gtbl) rmX6_take (va_Pc [.ref (gz g + a0), .int a1] (AtP g N ln S)) (QV g N ln post) 0 0 (gF g) := by
  refine m_of (by decide) (Nat.le_of_ble_eq_true rfl) ?_
  intro p e s m below meth c ls F hr I hl
  have hl : lv_has ls 3 [(0, .ref (gz g + a0)), (1, .int a1)] := hl
  unfold wpX6_take at h
  have hl_3 : ∀ n3 : Nat, ∀ (S : HC) (H : Heap) (locs : List Loc) (ls : Array Slot) (x0 : Nat) (x1 : Int32) (x2 : Int32), x0 < N → kd x0 = 6 → LX6_take_3 ln post n3 S x0 x1 x2 → Inv g N ln S s H locs → lv_has ls 3 [(0, .ref (gz g + x0)), (1, .int x1), (2, .int x2)] → W p l e rmX6_take s m ([.ref (gz g + a0), .int a1] : List Value).toArray below meth c H locs 0 0 (MQ below (QV g N ln post) ([.ref (gz g + a0), .int a1] : List Value).toArray s 0 0 (gF g)) (F0 m 3 ls []) := by
    intro n3
    induction n3 with
    | zero =>
      intro S H locs ls x0 x1 x2 hr_x0 hk_x0 h I hl
      exact h.elim
    | succ n3 ih =>
      have hk3 := ih
      have hj_49 : ∀ (S : HC) (H : Heap) (locs : List Loc) (ls : Array Slot) (x0 : Nat) (x1 : Int32) (x2 : Int32), x0 < N → kd x0 = 6 → BX6_take_49 ln post (LX6_take_3 ln post n3) S x0 x1 x2 → Inv g N ln S s H locs → lv_has ls 3 [(0, .ref (gz g + x0)), (1, .int x1), (2, .int x2)] → W p l e rmX6_take s m ([.ref (gz g + a0), .int a1] : List Value).toArray below meth c H locs 0 0 (MQ below (QV g N ln post) ([.ref (gz g + a0), .int a1] : List Value).toArray s 0 0 (gF g)) (F0 m 49 ls []) := by
        intro S H locs ls x0 x1 x2 hr_x0 hk_x0 h I hl
        unfold BX6_take_49 at h
        obtain ⟨z1, e_z1, h⟩ := lt_x h
        refine lv_iinc (v := z1) (lv' := [(2, .int z1), (0, .ref (gz g + x0)), (1, .int x1)]) F.1 F.2.1 dX6_take_49 hl (k := 2) rfl (by rw [e_z1]; rfl) (by decide) rfl (fun ls hl => ?_)
        refine lv_goto (tgt := 3) F.1 F.2.1 dX6_take_52 (by decide) ?_
        exact hk3 S _ _ _ x0 x1 z1 hr_x0 hk_x0 h I (lv_sub hl [1, 2, 0] rfl)
      intro S H locs ls x0 x1 x2 hr_x0 hk_x0 h I hl
      rw [LX6_take_3] at h
      refine lv_iload_n F.1 F.2.1 dX6_take_3 rfl (lv_at hl 2 rfl) ?_
      refine r_if_lt (tgt := 55) F dX6_take_4 (by decide) h (fun h => ?_) (fun h => ?_)
      · exact r_vreturn F I ⟨hr.1, hr.2.1, trivial⟩ h dX6_take_55
      · refine lv_aload_n F.1 F.2.1 dX6_take_7 rfl (lv_at hl 0 rfl) ?_
        refine r_getI F I hr_x0 hk_x0 fX6_15 rfl dX6_take_8 h (fun z2 h => ?_)
        refine r_if_lt (tgt := 49) F dX6_take_11 (by decide) h (fun h => ?_) (fun h => ?_)
        · exact hj_49 S _ _ _ x0 x1 x2 hr_x0 hk_x0 h I (lv_sub hl [0, 1, 2] rfl)
        · refine lv_aload_n F.1 F.2.1 dX6_take_14 rfl (lv_at hl 0 rfl) ?_
          refine r_getI F I hr_x0 hk_x0 fX6_15 rfl dX6_take_15 h (fun z3 h => ?_)
          refine lv_bipush (v := 96) F.1 F.2.1 dX6_take_18 (by decide) ?_
          refine r_icmp_ge (tgt := 49) F dX6_take_20 (by decide) h (fun h => ?_) (fun h => ?_)
          · exact hj_49 S _ _ _ x0 x1 x2 hr_x0 hk_x0 h I (lv_sub hl [0, 1, 2] rfl)
          · refine lv_aload_n F.1 F.2.1 dX6_take_23 rfl (lv_at hl 0 rfl) ?_
            refine r_getN F I hr_x0 hk_x0 fX6_9 (f := 9) rfl (by decide) dX6_take_24 h (fun b4 hr_b4 hk_b4 h => ?_)
            refine lv_aload_n F.1 F.2.1 dX6_take_27 rfl (lv_at hl 0 rfl) ?_
            refine r_getI F I hr_x0 hk_x0 fX6_15 rfl dX6_take_28 h (fun z5 h => ?_)
            refine lv_iload_n F.1 F.2.1 dX6_take_31 rfl (lv_at hl 1 rfl) ?_
            refine lv_iload_n F.1 F.2.1 dX6_take_32 rfl (lv_at hl 2 rfl) ?_
            refine r_iushr F dX6_take_33 h (fun z6 h => ?_)
            refine lv_sipush (v := 255) F.1 F.2.1 dX6_take_34 (by decide) ?_
            refine r_iand F dX6_take_37 h (fun z7 h => ?_)
            refine r_ast F I hr_b4 hk_b4 dX6_take_38 h (fun S H locs I h => ?_)
            refine lv_aload_n F.1 F.2.1 dX6_take_39 rfl (lv_at hl 0 rfl) ?_
            refine lv_dup F.1 F.2.1 dX6_take_40 rfl ?_
            refine r_getI F I hr_x0 hk_x0 fX6_15 rfl dX6_take_41 h (fun z8 h => ?_)
            refine lv_iconst (v := 1) F.1 F.2.1 dX6_take_44 (by decide) ?_
            refine r_iadd F dX6_take_45 h (fun z9 h => ?_)
            refine r_putI F I hr_x0 hk_x0 fX6_15 rfl (Or.inl rfl) ⟨rfl, rfl⟩ dX6_take_46 h (fun S H locs I h => ?_)
            exact hj_49 S _ _ _ x0 x1 x2 hr_x0 hk_x0 h I (lv_sub hl [0, 1, 2] rfl)
  refine lv_bipush (v := 24) F.1 F.2.1 dX6_take_0 (by decide) ?_
  refine lv_istore_n (lv' := [(2, .int (24 : Int32)), (0, .ref (gz g + a0)), (1, .int a1)]) F.1 F.2.1 dX6_take_2 rfl hl (by decide) rfl (fun ls hl => ?_)
  obtain ⟨n3, h⟩ := h
  exact hl_3 n3 S _ _ _ a0 a1 (24 : Int32) hr_a0 hk_a0 h I (lv_sub hl [1, 2, 0] rfl)
theorem bdX6_at_0 : ∀ q ∈ ([(0, .iload_n 1, 1), (1, .ifCond .lt 26, 3), (4, .iload_n 1, 1), (5, .aload_n 0, 1), (6, .getfield 15, 3), (9, .if_icmp .ge 18, 3), (12, .iload_n 1, 1), (13, .bipush 96, 2), (15, .if_icmp .ge 12, 3), (18, .aload_n 0, 1), (19, .getfield 9, 3), (22, .iload_n 1, 1), (23, .iaload, 1), (24, .goto 4, 3), (27, .iconst (-1), 1), (28, .ireturn, 1)] : List (Nat × Jvm.ClassFile.Instr × Nat)), decode cX6_at q.1 = .ok q.2 := chk_ok _ 0 _ rfl (by decide +kernel)
theorem dX6_at_0 : decode cX6_at 0 = .ok (.iload_n 1, 1) := bdX6_at_0 (0, .iload_n 1, 1) (List.mem_of_getElem? (i := 0) rfl)
theorem dX6_at_1 : decode cX6_at 1 = .ok (.ifCond .lt 26, 3) := bdX6_at_0 (1, .ifCond .lt 26, 3) (List.mem_of_getElem? (i := 1) rfl)
theorem dX6_at_4 : decode cX6_at 4 = .ok (.iload_n 1, 1) := bdX6_at_0 (4, .iload_n 1, 1) (List.mem_of_getElem? (i := 2) rfl)
theorem dX6_at_5 : decode cX6_at 5 = .ok (.aload_n 0, 1) := bdX6_at_0 (5, .aload_n 0, 1) (List.mem_of_getElem? (i := 3) rfl)
theorem dX6_at_6 : decode cX6_at 6 = .ok (.getfield 15, 3) := bdX6_at_0 (6, .getfield 15, 3) (List.mem_of_getElem? (i := 4) rfl)
theorem dX6_at_9 : decode cX6_at 9 = .ok (.if_icmp .ge 18, 3) := bdX6_at_0 (9, .if_icmp .ge 18, 3) (List.mem_of_getElem? (i := 5) rfl)
theorem dX6_at_12 : decode cX6_at 12 = .ok (.iload_n 1, 1) := bdX6_at_0 (12, .iload_n 1, 1) (List.mem_of_getElem? (i := 6) rfl)
theorem dX6_at_13 : decode cX6_at 13 = .ok (.bipush 96, 2) := bdX6_at_0 (13, .bipush 96, 2) (List.mem_of_getElem? (i := 7) rfl)
theorem dX6_at_15 : decode cX6_at 15 = .ok (.if_icmp .ge 12, 3) := bdX6_at_0 (15, .if_icmp .ge 12, 3) (List.mem_of_getElem? (i := 8) rfl)
theorem dX6_at_18 : decode cX6_at 18 = .ok (.aload_n 0, 1) := bdX6_at_0 (18, .aload_n 0, 1) (List.mem_of_getElem? (i := 9) rfl)
theorem dX6_at_19 : decode cX6_at 19 = .ok (.getfield 9, 3) := bdX6_at_0 (19, .getfield 9, 3) (List.mem_of_getElem? (i := 10) rfl)
theorem dX6_at_22 : decode cX6_at 22 = .ok (.iload_n 1, 1) := bdX6_at_0 (22, .iload_n 1, 1) (List.mem_of_getElem? (i := 11) rfl)
theorem dX6_at_23 : decode cX6_at 23 = .ok (.iaload, 1) := bdX6_at_0 (23, .iaload, 1) (List.mem_of_getElem? (i := 12) rfl)
theorem dX6_at_24 : decode cX6_at 24 = .ok (.goto 4, 3) := bdX6_at_0 (24, .goto 4, 3) (List.mem_of_getElem? (i := 13) rfl)
theorem dX6_at_27 : decode cX6_at 27 = .ok (.iconst (-1), 1) := bdX6_at_0 (27, .iconst (-1), 1) (List.mem_of_getElem? (i := 14) rfl)
theorem dX6_at_28 : decode cX6_at 28 = .ok (.ireturn, 1) := bdX6_at_0 (28, .ireturn, 1) (List.mem_of_getElem? (i := 15) rfl)
def BX6_at_27 (ln : Nat → Nat) (post : Int32 → HC → Prop) (S : HC)  : Prop := post (-1 : Int32) S
def wpX6_at (ln : Nat → Nat) (S : HC) (a0 : Nat) (a1 : Int32) (post : Int32 → HC → Prop) : Prop := if a1 < 0 then (BX6_at_27 ln post S) else (lt_ (hI S a0 1) fun z1 => if z1 ≤ a1 then (BX6_at_27 ln post S) else (if (96 : Int32) ≤ a1 then (BX6_at_27 ln post S) else (dn_ (hR S a0 0) fun b2 => al_ (ln b2) a1 (hI S b2) fun z3 => post z3 S)))
abbrev rmX6_at : Room := { frames := 0, cells := 0, slots := 0, locals := 0 }
set_option maxHeartbeats 4000000 in
set_option maxRecDepth 100000 in
theorem ctX6_at {l : Launch} {g : GX} {N : Nat} {ln : Nat → Nat} {S : HC} {a0 : Nat} {a1 : Int32} {post : Int32 → HC → Prop} (hr_a0 : a0 < N) (hk_a0 : kd a0 = 6) (h : wpX6_at ln S a0 a1 post) : Met l yX6_at (Cond.code yX6_at prog_8_method_3_code 2 (Option.some Jvm.ClassFile.FieldType.int) :: gtbl) rmX6_at (va_Pc [.ref (gz g + a0), .int a1] (AtP g N ln S)) (QI g N ln post) 0 0 (gF g) := by
  refine m_of (by decide) (Nat.le_of_ble_eq_true rfl) ?_
  intro p e s m below meth c ls F hr I hl
  have hl : lv_has ls 2 [(0, .ref (gz g + a0)), (1, .int a1)] := hl
  unfold wpX6_at at h
  have hj_27 : ∀ (S : HC) (H : Heap) (locs : List Loc) (ls : Array Slot), BX6_at_27 ln post S  → Inv g N ln S s H locs → lv_has ls 2 [] → W p l e rmX6_at s m ([.ref (gz g + a0), .int a1] : List Value).toArray below meth c H locs 0 0 (MQ below (QI g N ln post) ([.ref (gz g + a0), .int a1] : List Value).toArray s 0 0 (gF g)) (F0 m 27 ls []) := by
    intro S H locs ls h I hl
    unfold BX6_at_27 at h
    refine lv_iconst (v := -1) F.1 F.2.1 dX6_at_27 (by decide) ?_
    exact r_ireturn F I ⟨hr.1, hr.2.1, trivial⟩ h dX6_at_28
  refine lv_iload_n F.1 F.2.1 dX6_at_0 rfl (lv_at hl 1 rfl) ?_
  refine r_if_lt (tgt := 27) F dX6_at_1 (by decide) h (fun h => ?_) (fun h => ?_)
  · exact hj_27 S _ _ _   h I (lv_sub hl [] rfl)
  · refine lv_iload_n F.1 F.2.1 dX6_at_4 rfl (lv_at hl 1 rfl) ?_
    refine lv_aload_n F.1 F.2.1 dX6_at_5 rfl (lv_at hl 0 rfl) ?_
    refine r_getI F I hr_a0 hk_a0 fX6_15 rfl dX6_at_6 h (fun z1 h => ?_)
    refine r_icmp_ge (tgt := 27) F dX6_at_9 (by decide) h (fun h => ?_) (fun h => ?_)
    · exact hj_27 S _ _ _   h I (lv_sub hl [] rfl)
    · refine lv_iload_n F.1 F.2.1 dX6_at_12 rfl (lv_at hl 1 rfl) ?_
      refine lv_bipush (v := 96) F.1 F.2.1 dX6_at_13 (by decide) ?_
      refine r_icmp_ge (tgt := 27) F dX6_at_15 (by decide) h (fun h => ?_) (fun h => ?_)
      · exact hj_27 S _ _ _   h I (lv_sub hl [] rfl)
      · refine lv_aload_n F.1 F.2.1 dX6_at_18 rfl (lv_at hl 0 rfl) ?_
        refine r_getN F I hr_a0 hk_a0 fX6_9 (f := 9) rfl (by decide) dX6_at_19 h (fun b2 hr_b2 hk_b2 h => ?_)
        refine lv_iload_n F.1 F.2.1 dX6_at_22 rfl (lv_at hl 1 rfl) ?_
        refine r_ald F I hr_b2 hk_b2 dX6_at_23 h (fun z3 h => ?_)
        refine lv_goto (tgt := 28) F.1 F.2.1 dX6_at_24 (by decide) ?_
        exact r_ireturn F I ⟨hr.1, hr.2.1, trivial⟩ h dX6_at_28
theorem bdJ6_bitCount_0f7a4_0 : ∀ q ∈ ([(0, .iload_n 0, 1), (1, .iload_n 0, 1), (2, .iconst 1, 1), (4, .ldc_w 265, 3), (7, .iand, 1), (8, .isub, 1), (9, .istore_n 0, 1), (10, .iload_n 0, 1), (11, .ldc_w 266, 3), (14, .iand, 1), (15, .iload_n 0, 1), (16, .iconst 2, 1), (18, .ldc_w 266, 3), (21, .iand, 1), (22, .iadd, 1), (23, .istore_n 0, 1), (24, .iload_n 0, 1), (25, .iload_n 0, 1), (26, .iconst 4, 1), (28, .iadd, 1), (29, .ldc_w 267, 3), (32, .iand, 1), (33, .istore_n 0, 1), (34, .iload_n 0, 1), (35, .iload_n 0, 1), (36, .bipush 8, 2), (39, .iadd, 1), (40, .istore_n 0, 1), (41, .iload_n 0, 1), (42, .iload_n 0, 1), (43, .bipush 16, 2), (46, .iadd, 1), (47, .istore_n 0, 1), (48, .iload_n 0, 1), (49, .bipush 63, 2), (51, .iand, 1), (52, .ireturn, 1)] : List (Nat × Jvm.ClassFile.Instr × Nat)), decode cJ6_bitCount_0f7a4 q.1 = .ok q.2 := chk_ok _ 0 _ rfl (by decide +kernel)
theorem dJ6_bitCount_0f7a4_0 : decode cJ6_bitCount_0f7a4 0 = .ok (.iload_n 0, 1) := bdJ6_bitCount_0f7a4_0 (0, .iload_n 0, 1) (List.mem_of_getElem? (i := 0) rfl)
theorem dJ6_bitCount_0f7a4_1 : decode cJ6_bitCount_0f7a4 1 = .ok (.iload_n 0, 1) := bdJ6_bitCount_0f7a4_0 (1, .iload_n 0, 1) (List.mem_of_getElem? (i := 1) rfl)
theorem dJ6_bitCount_0f7a4_2 : decode cJ6_bitCount_0f7a4 2 = .ok (.iconst 1, 1) := bdJ6_bitCount_0f7a4_0 (2, .iconst 1, 1) (List.mem_of_getElem? (i := 2) rfl)
theorem dJ6_bitCount_0f7a4_4 : decode cJ6_bitCount_0f7a4 4 = .ok (.ldc_w 265, 3) := bdJ6_bitCount_0f7a4_0 (4, .ldc_w 265, 3) (List.mem_of_getElem? (i := 3) rfl)
theorem dJ6_bitCount_0f7a4_7 : decode cJ6_bitCount_0f7a4 7 = .ok (.iand, 1) := bdJ6_bitCount_0f7a4_0 (7, .iand, 1) (List.mem_of_getElem? (i := 4) rfl)
theorem dJ6_bitCount_0f7a4_8 : decode cJ6_bitCount_0f7a4 8 = .ok (.isub, 1) := bdJ6_bitCount_0f7a4_0 (8, .isub, 1) (List.mem_of_getElem? (i := 5) rfl)
theorem dJ6_bitCount_0f7a4_9 : decode cJ6_bitCount_0f7a4 9 = .ok (.istore_n 0, 1) := bdJ6_bitCount_0f7a4_0 (9, .istore_n 0, 1) (List.mem_of_getElem? (i := 6) rfl)
theorem dJ6_bitCount_0f7a4_10 : decode cJ6_bitCount_0f7a4 10 = .ok (.iload_n 0, 1) := bdJ6_bitCount_0f7a4_0 (10, .iload_n 0, 1) (List.mem_of_getElem? (i := 7) rfl)
theorem dJ6_bitCount_0f7a4_11 : decode cJ6_bitCount_0f7a4 11 = .ok (.ldc_w 266, 3) := bdJ6_bitCount_0f7a4_0 (11, .ldc_w 266, 3) (List.mem_of_getElem? (i := 8) rfl)
theorem dJ6_bitCount_0f7a4_14 : decode cJ6_bitCount_0f7a4 14 = .ok (.iand, 1) := bdJ6_bitCount_0f7a4_0 (14, .iand, 1) (List.mem_of_getElem? (i := 9) rfl)
theorem dJ6_bitCount_0f7a4_15 : decode cJ6_bitCount_0f7a4 15 = .ok (.iload_n 0, 1) := bdJ6_bitCount_0f7a4_0 (15, .iload_n 0, 1) (List.mem_of_getElem? (i := 10) rfl)
theorem dJ6_bitCount_0f7a4_16 : decode cJ6_bitCount_0f7a4 16 = .ok (.iconst 2, 1) := bdJ6_bitCount_0f7a4_0 (16, .iconst 2, 1) (List.mem_of_getElem? (i := 11) rfl)
theorem dJ6_bitCount_0f7a4_18 : decode cJ6_bitCount_0f7a4 18 = .ok (.ldc_w 266, 3) := bdJ6_bitCount_0f7a4_0 (18, .ldc_w 266, 3) (List.mem_of_getElem? (i := 12) rfl)
theorem dJ6_bitCount_0f7a4_21 : decode cJ6_bitCount_0f7a4 21 = .ok (.iand, 1) := bdJ6_bitCount_0f7a4_0 (21, .iand, 1) (List.mem_of_getElem? (i := 13) rfl)
theorem dJ6_bitCount_0f7a4_22 : decode cJ6_bitCount_0f7a4 22 = .ok (.iadd, 1) := bdJ6_bitCount_0f7a4_0 (22, .iadd, 1) (List.mem_of_getElem? (i := 14) rfl)
theorem dJ6_bitCount_0f7a4_23 : decode cJ6_bitCount_0f7a4 23 = .ok (.istore_n 0, 1) := bdJ6_bitCount_0f7a4_0 (23, .istore_n 0, 1) (List.mem_of_getElem? (i := 15) rfl)
theorem dJ6_bitCount_0f7a4_24 : decode cJ6_bitCount_0f7a4 24 = .ok (.iload_n 0, 1) := bdJ6_bitCount_0f7a4_0 (24, .iload_n 0, 1) (List.mem_of_getElem? (i := 16) rfl)
theorem dJ6_bitCount_0f7a4_25 : decode cJ6_bitCount_0f7a4 25 = .ok (.iload_n 0, 1) := bdJ6_bitCount_0f7a4_0 (25, .iload_n 0, 1) (List.mem_of_getElem? (i := 17) rfl)
theorem dJ6_bitCount_0f7a4_26 : decode cJ6_bitCount_0f7a4 26 = .ok (.iconst 4, 1) := bdJ6_bitCount_0f7a4_0 (26, .iconst 4, 1) (List.mem_of_getElem? (i := 18) rfl)
theorem dJ6_bitCount_0f7a4_28 : decode cJ6_bitCount_0f7a4 28 = .ok (.iadd, 1) := bdJ6_bitCount_0f7a4_0 (28, .iadd, 1) (List.mem_of_getElem? (i := 19) rfl)
theorem dJ6_bitCount_0f7a4_29 : decode cJ6_bitCount_0f7a4 29 = .ok (.ldc_w 267, 3) := bdJ6_bitCount_0f7a4_0 (29, .ldc_w 267, 3) (List.mem_of_getElem? (i := 20) rfl)
theorem dJ6_bitCount_0f7a4_32 : decode cJ6_bitCount_0f7a4 32 = .ok (.iand, 1) := bdJ6_bitCount_0f7a4_0 (32, .iand, 1) (List.mem_of_getElem? (i := 21) rfl)
theorem dJ6_bitCount_0f7a4_33 : decode cJ6_bitCount_0f7a4 33 = .ok (.istore_n 0, 1) := bdJ6_bitCount_0f7a4_0 (33, .istore_n 0, 1) (List.mem_of_getElem? (i := 22) rfl)
theorem dJ6_bitCount_0f7a4_34 : decode cJ6_bitCount_0f7a4 34 = .ok (.iload_n 0, 1) := bdJ6_bitCount_0f7a4_0 (34, .iload_n 0, 1) (List.mem_of_getElem? (i := 23) rfl)
theorem dJ6_bitCount_0f7a4_35 : decode cJ6_bitCount_0f7a4 35 = .ok (.iload_n 0, 1) := bdJ6_bitCount_0f7a4_0 (35, .iload_n 0, 1) (List.mem_of_getElem? (i := 24) rfl)
theorem dJ6_bitCount_0f7a4_36 : decode cJ6_bitCount_0f7a4 36 = .ok (.bipush 8, 2) := bdJ6_bitCount_0f7a4_0 (36, .bipush 8, 2) (List.mem_of_getElem? (i := 25) rfl)
theorem dJ6_bitCount_0f7a4_39 : decode cJ6_bitCount_0f7a4 39 = .ok (.iadd, 1) := bdJ6_bitCount_0f7a4_0 (39, .iadd, 1) (List.mem_of_getElem? (i := 26) rfl)
theorem dJ6_bitCount_0f7a4_40 : decode cJ6_bitCount_0f7a4 40 = .ok (.istore_n 0, 1) := bdJ6_bitCount_0f7a4_0 (40, .istore_n 0, 1) (List.mem_of_getElem? (i := 27) rfl)
theorem dJ6_bitCount_0f7a4_41 : decode cJ6_bitCount_0f7a4 41 = .ok (.iload_n 0, 1) := bdJ6_bitCount_0f7a4_0 (41, .iload_n 0, 1) (List.mem_of_getElem? (i := 28) rfl)
theorem dJ6_bitCount_0f7a4_42 : decode cJ6_bitCount_0f7a4 42 = .ok (.iload_n 0, 1) := bdJ6_bitCount_0f7a4_0 (42, .iload_n 0, 1) (List.mem_of_getElem? (i := 29) rfl)
theorem dJ6_bitCount_0f7a4_43 : decode cJ6_bitCount_0f7a4 43 = .ok (.bipush 16, 2) := bdJ6_bitCount_0f7a4_0 (43, .bipush 16, 2) (List.mem_of_getElem? (i := 30) rfl)
theorem dJ6_bitCount_0f7a4_46 : decode cJ6_bitCount_0f7a4 46 = .ok (.iadd, 1) := bdJ6_bitCount_0f7a4_0 (46, .iadd, 1) (List.mem_of_getElem? (i := 31) rfl)
theorem dJ6_bitCount_0f7a4_47 : decode cJ6_bitCount_0f7a4 47 = .ok (.istore_n 0, 1) := bdJ6_bitCount_0f7a4_0 (47, .istore_n 0, 1) (List.mem_of_getElem? (i := 32) rfl)
theorem dJ6_bitCount_0f7a4_48 : decode cJ6_bitCount_0f7a4 48 = .ok (.iload_n 0, 1) := bdJ6_bitCount_0f7a4_0 (48, .iload_n 0, 1) (List.mem_of_getElem? (i := 33) rfl)
theorem dJ6_bitCount_0f7a4_49 : decode cJ6_bitCount_0f7a4 49 = .ok (.bipush 63, 2) := bdJ6_bitCount_0f7a4_0 (49, .bipush 63, 2) (List.mem_of_getElem? (i := 34) rfl)
theorem dJ6_bitCount_0f7a4_51 : decode cJ6_bitCount_0f7a4 51 = .ok (.iand, 1) := bdJ6_bitCount_0f7a4_0 (51, .iand, 1) (List.mem_of_getElem? (i := 35) rfl)
theorem dJ6_bitCount_0f7a4_52 : decode cJ6_bitCount_0f7a4 52 = .ok (.ireturn, 1) := bdJ6_bitCount_0f7a4_0 (52, .ireturn, 1) (List.mem_of_getElem? (i := 36) rfl)
theorem budJ6_bitCount_0f7a4_3 : ∀ q ∈ ([(3, .ok (.iushr, 1)), (17, .ok (.iushr, 1)), (27, .ok (.iushr, 1)), (38, .ok (.iushr, 1)), (45, .ok (.iushr, 1))] : List (Nat × Except Jvm.ClassFile.DecodeError (Jvm.ClassFile.Instr × Nat))), decode cJ6_bitCount_0f7a4 q.1 = q.2 := by decide +kernel
theorem dJ6_bitCount_0f7a4_3 : decode cJ6_bitCount_0f7a4 3 = .ok (.iushr, 1) := budJ6_bitCount_0f7a4_3 (3, .ok (.iushr, 1)) (List.mem_of_getElem? (i := 0) rfl)
theorem dJ6_bitCount_0f7a4_17 : decode cJ6_bitCount_0f7a4 17 = .ok (.iushr, 1) := budJ6_bitCount_0f7a4_3 (17, .ok (.iushr, 1)) (List.mem_of_getElem? (i := 1) rfl)
theorem dJ6_bitCount_0f7a4_27 : decode cJ6_bitCount_0f7a4 27 = .ok (.iushr, 1) := budJ6_bitCount_0f7a4_3 (27, .ok (.iushr, 1)) (List.mem_of_getElem? (i := 2) rfl)
theorem dJ6_bitCount_0f7a4_38 : decode cJ6_bitCount_0f7a4 38 = .ok (.iushr, 1) := budJ6_bitCount_0f7a4_3 (38, .ok (.iushr, 1)) (List.mem_of_getElem? (i := 3) rfl)
theorem dJ6_bitCount_0f7a4_45 : decode cJ6_bitCount_0f7a4 45 = .ok (.iushr, 1) := budJ6_bitCount_0f7a4_3 (45, .ok (.iushr, 1)) (List.mem_of_getElem? (i := 4) rfl)
def wpJ6_bitCount_0f7a4 (ln : Nat → Nat) (S : HC) (a0 : Int32) (post : Int32 → HC → Prop) : Prop := lt_ ((a0.toUInt32 >>> ((1 : Int32).toUInt32 &&& Int32.toUInt32 31)).toInt32) fun z1 => lt_ (z1 &&& (1431655765 : Int32)) fun z2 => lt_ (a0 - z2) fun z3 => lt_ (z3 &&& (858993459 : Int32)) fun z4 => lt_ ((z3.toUInt32 >>> ((2 : Int32).toUInt32 &&& Int32.toUInt32 31)).toInt32) fun z5 => lt_ (z5 &&& (858993459 : Int32)) fun z6 => lt_ (z4 + z6) fun z7 => lt_ ((z7.toUInt32 >>> ((4 : Int32).toUInt32 &&& Int32.toUInt32 31)).toInt32) fun z8 => lt_ (z7 + z8) fun z9 => lt_ (z9 &&& (252645135 : Int32)) fun z10 => lt_ ((z10.toUInt32 >>> ((8 : Int32).toUInt32 &&& Int32.toUInt32 31)).toInt32) fun z11 => lt_ (z10 + z11) fun z12 => lt_ ((z12.toUInt32 >>> ((16 : Int32).toUInt32 &&& Int32.toUInt32 31)).toInt32) fun z13 => lt_ (z12 + z13) fun z14 => lt_ (z14 &&& (63 : Int32)) fun z15 => post z15 S
abbrev rmJ6_bitCount_0f7a4 : Room := { frames := 0, cells := 0, slots := 0, locals := 0 }
set_option maxHeartbeats 4000000 in
set_option maxRecDepth 100000 in
theorem ctJ6_bitCount_0f7a4 {l : Launch} {g : GX} {N : Nat} {ln : Nat → Nat} {S : HC} {a0 : Int32} {post : Int32 → HC → Prop} (h : wpJ6_bitCount_0f7a4 ln S a0 post) : Met l yJ6_bitCount_0f7a4 (Cond.code yJ6_bitCount_0f7a4 prog_12_method_49_code 1 (Option.some Jvm.ClassFile.FieldType.int) :: gtbl) rmJ6_bitCount_0f7a4 (va_Pc [.int a0] (AtP g N ln S)) (QI g N ln post) 0 0 (gF g) := by
  refine m_of (by decide) (Nat.le_of_ble_eq_true rfl) ?_
  intro p e s m below meth c ls F hr I hl
  have hl : lv_has ls 1 [(0, .int a0)] := hl
  unfold wpJ6_bitCount_0f7a4 at h
  refine lv_iload_n F.1 F.2.1 dJ6_bitCount_0f7a4_0 rfl (lv_at hl 0 rfl) ?_
  refine lv_iload_n F.1 F.2.1 dJ6_bitCount_0f7a4_1 rfl (lv_at hl 0 rfl) ?_
  refine lv_iconst (v := 1) F.1 F.2.1 dJ6_bitCount_0f7a4_2 (by decide) ?_
  refine r_iushr F dJ6_bitCount_0f7a4_3 h (fun z1 h => ?_)
  refine lv_ldcw F.1 F.2.1 F.2.2.2.1 (F.2.2.2.2 _ tw_579) dJ6_bitCount_0f7a4_4 ?_
  refine r_iand F dJ6_bitCount_0f7a4_7 h (fun z2 h => ?_)
  refine r_isub F dJ6_bitCount_0f7a4_8 h (fun z3 h => ?_)
  refine lv_istore_n (lv' := [(0, .int z3)]) F.1 F.2.1 dJ6_bitCount_0f7a4_9 rfl hl (by decide) rfl (fun ls hl => ?_)
  refine lv_iload_n F.1 F.2.1 dJ6_bitCount_0f7a4_10 rfl (lv_at hl 0 rfl) ?_
  refine lv_ldcw F.1 F.2.1 F.2.2.2.1 (F.2.2.2.2 _ tw_580) dJ6_bitCount_0f7a4_11 ?_
  refine r_iand F dJ6_bitCount_0f7a4_14 h (fun z4 h => ?_)
  refine lv_iload_n F.1 F.2.1 dJ6_bitCount_0f7a4_15 rfl (lv_at hl 0 rfl) ?_
  refine lv_iconst (v := 2) F.1 F.2.1 dJ6_bitCount_0f7a4_16 (by decide) ?_
  refine r_iushr F dJ6_bitCount_0f7a4_17 h (fun z5 h => ?_)
  refine lv_ldcw F.1 F.2.1 F.2.2.2.1 (F.2.2.2.2 _ tw_580) dJ6_bitCount_0f7a4_18 ?_
  refine r_iand F dJ6_bitCount_0f7a4_21 h (fun z6 h => ?_)
  refine r_iadd F dJ6_bitCount_0f7a4_22 h (fun z7 h => ?_)
  refine lv_istore_n (lv' := [(0, .int z7)]) F.1 F.2.1 dJ6_bitCount_0f7a4_23 rfl hl (by decide) rfl (fun ls hl => ?_)
  refine lv_iload_n F.1 F.2.1 dJ6_bitCount_0f7a4_24 rfl (lv_at hl 0 rfl) ?_
  refine lv_iload_n F.1 F.2.1 dJ6_bitCount_0f7a4_25 rfl (lv_at hl 0 rfl) ?_
  refine lv_iconst (v := 4) F.1 F.2.1 dJ6_bitCount_0f7a4_26 (by decide) ?_
  refine r_iushr F dJ6_bitCount_0f7a4_27 h (fun z8 h => ?_)
  refine r_iadd F dJ6_bitCount_0f7a4_28 h (fun z9 h => ?_)
  refine lv_ldcw F.1 F.2.1 F.2.2.2.1 (F.2.2.2.2 _ tw_581) dJ6_bitCount_0f7a4_29 ?_
  refine r_iand F dJ6_bitCount_0f7a4_32 h (fun z10 h => ?_)
  refine lv_istore_n (lv' := [(0, .int z10)]) F.1 F.2.1 dJ6_bitCount_0f7a4_33 rfl hl (by decide) rfl (fun ls hl => ?_)
  refine lv_iload_n F.1 F.2.1 dJ6_bitCount_0f7a4_34 rfl (lv_at hl 0 rfl) ?_
  refine lv_iload_n F.1 F.2.1 dJ6_bitCount_0f7a4_35 rfl (lv_at hl 0 rfl) ?_
  refine lv_bipush (v := 8) F.1 F.2.1 dJ6_bitCount_0f7a4_36 (by decide) ?_
  refine r_iushr F dJ6_bitCount_0f7a4_38 h (fun z11 h => ?_)
  refine r_iadd F dJ6_bitCount_0f7a4_39 h (fun z12 h => ?_)
  refine lv_istore_n (lv' := [(0, .int z12)]) F.1 F.2.1 dJ6_bitCount_0f7a4_40 rfl hl (by decide) rfl (fun ls hl => ?_)
  refine lv_iload_n F.1 F.2.1 dJ6_bitCount_0f7a4_41 rfl (lv_at hl 0 rfl) ?_
  refine lv_iload_n F.1 F.2.1 dJ6_bitCount_0f7a4_42 rfl (lv_at hl 0 rfl) ?_
  refine lv_bipush (v := 16) F.1 F.2.1 dJ6_bitCount_0f7a4_43 (by decide) ?_
  refine r_iushr F dJ6_bitCount_0f7a4_45 h (fun z13 h => ?_)
  refine r_iadd F dJ6_bitCount_0f7a4_46 h (fun z14 h => ?_)
  refine lv_istore_n (lv' := [(0, .int z14)]) F.1 F.2.1 dJ6_bitCount_0f7a4_47 rfl hl (by decide) rfl (fun ls hl => ?_)
  refine lv_iload_n F.1 F.2.1 dJ6_bitCount_0f7a4_48 rfl (lv_at hl 0 rfl) ?_
  refine lv_bipush (v := 63) F.1 F.2.1 dJ6_bitCount_0f7a4_49 (by decide) ?_
  refine r_iand F dJ6_bitCount_0f7a4_51 h (fun z15 h => ?_)
  exact r_ireturn F I ⟨hr.1, hr.2.1, trivial⟩ h dJ6_bitCount_0f7a4_52
