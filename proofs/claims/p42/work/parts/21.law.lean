/-! THE CLAIM OUT OF ONE WALK OF THE LAW'S BODY. Your part is whole_start (and what it stands on); all else here is the same for every law, but numbers. -/
abbrev R_law : String := RL
def lw_P (b : Addr) (xs : List Int32) (args : Array Value) (s : State) : Prop := args = #[.ref b] ∧ s.IntsAt b xs ∧ xs.length ≤ 3072 ∧ (Jvm.Cond.and given_1 narrow_1).before args s = true
def lw_Q (_ : Array Value) (s : State) (o : Outcome) (t : State) : Prop := o = .returned (some (.int 1)) ∧ Framed s o t [] 600000 7302250
def lw_Z (below : List Frame) (a : Array Value) (s : State) : State → Prop := fun t => ∃ o, t.status = .running ∧ Ended t below o ∧ lw_Q a s o t
/-- the law's own end, with 1 on the stack, nothing written that was there before, its room as the claim has it -/
theorem lw_ret {p : Program} {l : Launch} {e : Env} {s : State} {m : MethodId} {below : List Frame} {meth : Method} {c : Code} {b : Nat} (hx : p.tables.exec = Jvm.exec) (hb : c.code = code) (hr : meth.sig.returnType = ret) (hlocks : meth.locks = false) {pc : Nat} {H : Heap} {ls : Array Slot} (hdg : decode code pc = .ok (.ireturn, 1)) : W p l e room_1 s m #[Value.ref b] below meth c H [] 600000 7302250 (lw_Z below #[Value.ref b] s) (F0 m pc ls [.int 1]) := by
  intro T hT X
  obtain ⟨fs, hret, hrun, hended, hW, hframe⟩ := X.leave (v := some (.int 1)) (hlocks := hlocks) (fun h => by rw [hr] at h; cases h)
  have hmeth' : T.vm.method? m = some meth := X.method'
  refine ⟨T.setFrames fs, ?_, .returned (some (.int 1)), hrun, hended, rfl, ⟨_, rfl⟩, hW, hframe⟩
  jvm_step X.here [X.here.top, hx, hb, hdg, hmeth', hr, ret, narrow_b1]
  (try refine ⟨rfl, ?_⟩); (try refine ⟨rfl, ?_⟩)
  first | (intro acts; rw [hret _ acts rfl rfl rfl]) | rw [hret _ _ rfl rfl rfl]
  exact Steps.refl _
/-- what holds at the law's entry: the machine, the code, the tables' words (any of lw_tbl by 'hts w (by decide +kernel)'), the script of L ints xs at the cell b, what the Statement gives of the start (any of its parts by flat_of_before) -/
def lw_At (p : Program) (s : State) (m : MethodId) (meth : Method) (c : Code) (b L : Nat) (xs : Nat → Int32) : Prop :=
  p.tables.exec = Jvm.exec ∧ c.code = code ∧ meth.sig.returnType = ret ∧ c.maxLocals = 4 ∧ s.vm.findClass R_law = some m.cls ∧ (∀ w ∈ lw_tbl, w.before #[Value.ref b] s = true) ∧ va_X b L xs s s.heap ∧ b < s.heap.size ∧ meth.locks = false ∧ (Jvm.Cond.and given_1 narrow_1).before #[Value.ref b] s = true
theorem kL_13 : mthV RL 13 7 yX7_person prog_1_method_2_code 6 (Option.some Jvm.ClassFile.FieldType.int) 5 := ⟨⟨⟨tw_319, tw_60, tw_322⟩, rfl, by decide +kernel⟩, tw_320, tw_321, rfl⟩
theorem kL_17 : mthV RL 17 8 yX8_person prog_10_method_12_code 6 (Option.some Jvm.ClassFile.FieldType.int) 5 := ⟨⟨⟨tw_1042, tw_67, tw_1045⟩, rfl, by decide +kernel⟩, tw_1043, tw_1044, rfl⟩
theorem kL_18 : mthV RL 18 7 yX7_told prog_1_method_3_code 3 (Option.some Jvm.ClassFile.FieldType.int) 2 := ⟨⟨⟨tw_349, tw_60, tw_352⟩, rfl, by decide +kernel⟩, tw_350, tw_351, rfl⟩
theorem kL_22 : mthV RL 22 8 yX8_told prog_10_method_15_code 3 (Option.some Jvm.ClassFile.FieldType.int) 2 := ⟨⟨⟨tw_1070, tw_67, tw_1073⟩, rfl, by decide +kernel⟩, tw_1071, tw_1072, rfl⟩
theorem kL_23 : mthV RL 23 7 yX7_bears prog_1_method_4_code 3 (Option.some Jvm.ClassFile.FieldType.int) 2 := ⟨⟨⟨tw_361, tw_60, tw_364⟩, rfl, by decide +kernel⟩, tw_362, tw_363, rfl⟩
theorem kL_26 : mthV RL 26 8 yX8_bears prog_10_method_22_code 3 (Option.some Jvm.ClassFile.FieldType.int) 2 := ⟨⟨⟨tw_1082, tw_67, tw_1085⟩, rfl, by decide +kernel⟩, tw_1083, tw_1084, rfl⟩
theorem kL_27 : mthV RL 27 7 yX7_as prog_1_method_5_code 3 (Option.some Jvm.ClassFile.FieldType.int) 2 := ⟨⟨⟨tw_429, tw_60, tw_432⟩, rfl, by decide +kernel⟩, tw_430, tw_431, rfl⟩
theorem kL_30 : mthV RL 30 8 yX8_as prog_10_method_24_code 3 (Option.some Jvm.ClassFile.FieldType.int) 2 := ⟨⟨⟨tw_1120, tw_67, tw_1123⟩, rfl, by decide +kernel⟩, tw_1121, tw_1122, rfl⟩
theorem kL_31 : mthV RL 31 7 yX7_turns prog_1_method_6_code 4 (Option.some Jvm.ClassFile.FieldType.int) 2 := ⟨⟨⟨tw_439, tw_60, tw_442⟩, rfl, by decide +kernel⟩, tw_440, tw_441, rfl⟩
theorem kL_34 : mthV RL 34 8 yX8_turns prog_10_method_25_code 3 (Option.some Jvm.ClassFile.FieldType.int) 2 := ⟨⟨⟨tw_1128, tw_67, tw_1131⟩, rfl, by decide +kernel⟩, tw_1129, tw_1130, rfl⟩
theorem kL_35 : mthV RL 35 7 yX7_set prog_1_method_7_code 5 (Option.some Jvm.ClassFile.FieldType.int) 3 := ⟨⟨⟨tw_443, tw_60, tw_446⟩, rfl, by decide +kernel⟩, tw_444, tw_445, rfl⟩
theorem kL_39 : mthV RL 39 8 yX8_set prog_10_method_26_code 4 (Option.some Jvm.ClassFile.FieldType.int) 3 := ⟨⟨⟨tw_1136, tw_67, tw_1139⟩, rfl, by decide +kernel⟩, tw_1137, tw_1138, rfl⟩
theorem kL_40 : mthV RL 40 7 yX7_fertile prog_1_method_8_code 3 (Option.some Jvm.ClassFile.FieldType.int) 1 := ⟨⟨⟨tw_447, tw_60, tw_450⟩, rfl, by decide +kernel⟩, tw_448, tw_449, rfl⟩
theorem kL_44 : mthV RL 44 8 yX8_fertile prog_10_method_27_code 2 (Option.some Jvm.ClassFile.FieldType.int) 1 := ⟨⟨⟨tw_1140, tw_67, tw_1143⟩, rfl, by decide +kernel⟩, tw_1141, tw_1142, rfl⟩
theorem kL_45 : mthV RL 45 7 yX7_deal prog_1_method_9_code 3 (Option.some Jvm.ClassFile.FieldType.int) 1 := ⟨⟨⟨tw_451, tw_60, tw_454⟩, rfl, by decide +kernel⟩, tw_452, tw_453, rfl⟩
theorem kL_48 : mthV RL 48 8 yX8_deal prog_10_method_29_code 6 (Option.some Jvm.ClassFile.FieldType.int) 1 := ⟨⟨⟨tw_1144, tw_67, tw_1147⟩, rfl, by decide +kernel⟩, tw_1145, tw_1146, rfl⟩
theorem kL_49 : mthV RL 49 7 yX7_seed prog_1_method_10_code 3 (Option.some Jvm.ClassFile.FieldType.int) 1 := ⟨⟨⟨tw_465, tw_60, tw_468⟩, rfl, by decide +kernel⟩, tw_466, tw_467, rfl⟩
theorem kL_52 : mthV RL 52 8 yX8_seed prog_10_method_30_code 2 (Option.some Jvm.ClassFile.FieldType.int) 1 := ⟨⟨⟨tw_1153, tw_67, tw_1156⟩, rfl, by decide +kernel⟩, tw_1154, tw_1155, rfl⟩
theorem kL_53 : mthV RL 53 7 yX7_years prog_1_method_11_code 5 (Option.some Jvm.ClassFile.FieldType.int) 1 := ⟨⟨⟨tw_469, tw_60, tw_472⟩, rfl, by decide +kernel⟩, tw_470, tw_471, rfl⟩
theorem kL_56 : mthV RL 56 8 yX8_years prog_10_method_35_code 3 (Option.some Jvm.ClassFile.FieldType.int) 1 := ⟨⟨⟨tw_1157, tw_67, tw_1160⟩, rfl, by decide +kernel⟩, tw_1158, tw_1159, rfl⟩
theorem kL_57 : mthV RL 57 7 yX7_alike prog_1_method_12_code 3 (Option.some Jvm.ClassFile.FieldType.int) 2 := ⟨⟨⟨tw_489, tw_60, tw_492⟩, rfl, by decide +kernel⟩, tw_490, tw_491, rfl⟩
theorem kL_60 : mthV RL 60 8 yX8_alike prog_10_method_37_code 3 (Option.some Jvm.ClassFile.FieldType.int) 2 := ⟨⟨⟨tw_1177, tw_67, tw_1180⟩, rfl, by decide +kernel⟩, tw_1178, tw_1179, rfl⟩
theorem kL_61 : mthV RL 61 7 yX7_land prog_1_method_13_code 2 (Option.some Jvm.ClassFile.FieldType.int) 1 := ⟨⟨⟨tw_504, tw_60, tw_507⟩, rfl, by decide +kernel⟩, tw_505, tw_506, rfl⟩
theorem kL_64 : mthV RL 64 8 yX8_land prog_10_method_39_code 4 (Option.some Jvm.ClassFile.FieldType.int) 1 := ⟨⟨⟨tw_1189, tw_67, tw_1192⟩, rfl, by decide +kernel⟩, tw_1190, tw_1191, rfl⟩
theorem kL_65 : mthV RL 65 7 yX7_sixteenth prog_1_method_14_code 2 (Option.some Jvm.ClassFile.FieldType.int) 1 := ⟨⟨⟨tw_515, tw_60, tw_518⟩, rfl, by decide +kernel⟩, tw_516, tw_517, rfl⟩
theorem kL_68 : mthV RL 68 8 yX8_sixteenth prog_10_method_40_code 4 (Option.some Jvm.ClassFile.FieldType.int) 1 := ⟨⟨⟨tw_1197, tw_67, tw_1200⟩, rfl, by decide +kernel⟩, tw_1198, tw_1199, rfl⟩
theorem kL_69 : mthV RL 69 7 yX7_from prog_1_method_15_code 4 (Option.some Jvm.ClassFile.FieldType.int) 2 := ⟨⟨⟨tw_523, tw_60, tw_526⟩, rfl, by decide +kernel⟩, tw_524, tw_525, rfl⟩
theorem kL_72 : mthV RL 72 8 yX8_from prog_10_method_41_code 6 (Option.some Jvm.ClassFile.FieldType.int) 2 := ⟨⟨⟨tw_1201, tw_67, tw_1204⟩, rfl, by decide +kernel⟩, tw_1202, tw_1203, rfl⟩
theorem kL_73 : mthV RL 73 7 yX7_match prog_1_method_16_code 8 (Option.some Jvm.ClassFile.FieldType.int) 3 := ⟨⟨⟨tw_535, tw_60, tw_538⟩, rfl, by decide +kernel⟩, tw_536, tw_537, rfl⟩
theorem kL_76 : mthV RL 76 8 yX8_match prog_10_method_42_code 8 (Option.some Jvm.ClassFile.FieldType.int) 3 := ⟨⟨⟨tw_1209, tw_67, tw_1212⟩, rfl, by decide +kernel⟩, tw_1210, tw_1211, rfl⟩
theorem kL_77 : mthV RL 77 7 yX7_repaint prog_1_method_17_code 7 (Option.some Jvm.ClassFile.FieldType.int) 0 := ⟨⟨⟨tw_540, tw_60, tw_543⟩, rfl, by decide +kernel⟩, tw_541, tw_542, rfl⟩
theorem kL_81 : mthV RL 81 8 yX8_repaint prog_10_method_43_code 7 (Option.some Jvm.ClassFile.FieldType.int) 0 := ⟨⟨⟨tw_1213, tw_67, tw_1216⟩, rfl, by decide +kernel⟩, tw_1214, tw_1215, rfl⟩
theorem kL_82 : mthV RL 82 7 yX7_behind prog_1_method_18_code 3 (Option.some Jvm.ClassFile.FieldType.int) 2 := ⟨⟨⟨tw_552, tw_60, tw_555⟩, rfl, by decide +kernel⟩, tw_553, tw_554, rfl⟩
theorem kL_85 : mthV RL 85 8 yX8_behind prog_10_method_47_code 4 (Option.some Jvm.ClassFile.FieldType.int) 2 := ⟨⟨⟨tw_1217, tw_67, tw_1220⟩, rfl, by decide +kernel⟩, tw_1218, tw_1219, rfl⟩
theorem kL_86 : mthV RL 86 7 yX7_born prog_1_method_19_code 2 (Option.some Jvm.ClassFile.FieldType.int) 0 := ⟨⟨⟨tw_568, tw_60, tw_571⟩, rfl, by decide +kernel⟩, tw_569, tw_570, rfl⟩
theorem kL_89 : mthV RL 89 8 yX8_born prog_10_method_48_code 4 (Option.some Jvm.ClassFile.FieldType.int) 0 := ⟨⟨⟨tw_1233, tw_67, tw_1236⟩, rfl, by decide +kernel⟩, tw_1234, tw_1235, rfl⟩
theorem kL_90 : mthV RL 90 7 yX7_gone prog_1_method_20_code 7 (Option.some Jvm.ClassFile.FieldType.int) 2 := ⟨⟨⟨tw_572, tw_60, tw_575⟩, rfl, by decide +kernel⟩, tw_573, tw_574, rfl⟩
theorem kL_93 : mthV RL 93 8 yX8_gone prog_10_method_49_code 8 (Option.some Jvm.ClassFile.FieldType.int) 2 := ⟨⟨⟨tw_1237, tw_67, tw_1240⟩, rfl, by decide +kernel⟩, tw_1238, tw_1239, rfl⟩
theorem kL_94 : mthV RL 94 7 yX7_spoon prog_1_method_21_code 8 (Option.some Jvm.ClassFile.FieldType.int) 2 := ⟨⟨⟨tw_582, tw_60, tw_585⟩, rfl, by decide +kernel⟩, tw_583, tw_584, rfl⟩
theorem kL_97 : mthV RL 97 8 yX8_spoon prog_10_method_51_code 9 (Option.some Jvm.ClassFile.FieldType.int) 2 := ⟨⟨⟨tw_1241, tw_67, tw_1244⟩, rfl, by decide +kernel⟩, tw_1242, tw_1243, rfl⟩
theorem kL_98 : mthV RL 98 7 yX7_fee prog_1_method_22_code 2 (Option.some Jvm.ClassFile.FieldType.int) 0 := ⟨⟨⟨tw_610, tw_60, tw_613⟩, rfl, by decide +kernel⟩, tw_611, tw_612, rfl⟩
theorem kL_101 : mthV RL 101 8 yX8_fee prog_10_method_52_code 2 (Option.some Jvm.ClassFile.FieldType.int) 0 := ⟨⟨⟨tw_1253, tw_67, tw_1256⟩, rfl, by decide +kernel⟩, tw_1254, tw_1255, rfl⟩
theorem kL_102 : mthV RL 102 7 yX7_fine prog_1_method_23_code 3 (Option.some Jvm.ClassFile.FieldType.int) 1 := ⟨⟨⟨tw_616, tw_60, tw_619⟩, rfl, by decide +kernel⟩, tw_617, tw_618, rfl⟩
theorem kL_105 : mthV RL 105 8 yX8_fine prog_10_method_53_code 5 (Option.some Jvm.ClassFile.FieldType.int) 1 := ⟨⟨⟨tw_1257, tw_67, tw_1260⟩, rfl, by decide +kernel⟩, tw_1258, tw_1259, rfl⟩
theorem kL_106 : mthV RL 106 7 yX7_feed prog_1_method_24_code 5 (Option.some Jvm.ClassFile.FieldType.int) 3 := ⟨⟨⟨tw_620, tw_60, tw_623⟩, rfl, by decide +kernel⟩, tw_621, tw_622, rfl⟩
theorem kL_109 : mthV RL 109 8 yX8_feed prog_10_method_54_code 6 (Option.some Jvm.ClassFile.FieldType.int) 3 := ⟨⟨⟨tw_1261, tw_67, tw_1264⟩, rfl, by decide +kernel⟩, tw_1262, tw_1263, rfl⟩
theorem kL_110 : mthV RL 110 7 yX7_trim prog_1_method_25_code 2 (Option.some Jvm.ClassFile.FieldType.int) 1 := ⟨⟨⟨tw_628, tw_60, tw_631⟩, rfl, by decide +kernel⟩, tw_629, tw_630, rfl⟩
theorem kL_113 : mthV RL 113 8 yX8_trim prog_10_method_55_code 2 (Option.some Jvm.ClassFile.FieldType.int) 1 := ⟨⟨⟨tw_1265, tw_67, tw_1268⟩, rfl, by decide +kernel⟩, tw_1266, tw_1267, rfl⟩
theorem kL_114 : mthV RL 114 7 yX7_text prog_1_method_26_code 2 (Option.some Jvm.ClassFile.FieldType.int) 0 := ⟨⟨⟨tw_632, tw_60, tw_635⟩, rfl, by decide +kernel⟩, tw_633, tw_634, rfl⟩
theorem kL_117 : mthV RL 117 8 yX8_text prog_10_method_67_code 4 (Option.some Jvm.ClassFile.FieldType.int) 0 := ⟨⟨⟨tw_1269, tw_67, tw_1272⟩, rfl, by decide +kernel⟩, tw_1270, tw_1271, rfl⟩
theorem kL_118 : mthV RL 118 7 yX7_textTold prog_1_method_27_code 4 (Option.some Jvm.ClassFile.FieldType.int) 2 := ⟨⟨⟨tw_832, tw_60, tw_835⟩, rfl, by decide +kernel⟩, tw_833, tw_834, rfl⟩
theorem kL_121 : mthV RL 121 8 yX8_textTold prog_10_method_68_code 3 (Option.some Jvm.ClassFile.FieldType.int) 2 := ⟨⟨⟨tw_1316, tw_67, tw_1319⟩, rfl, by decide +kernel⟩, tw_1317, tw_1318, rfl⟩
theorem kL_122 : mthV RL 122 7 yX7_why prog_1_method_28_code 3 (Option.some Jvm.ClassFile.FieldType.int) 1 := ⟨⟨⟨tw_836, tw_60, tw_839⟩, rfl, by decide +kernel⟩, tw_837, tw_838, rfl⟩
theorem kL_125 : mthV RL 125 8 yX8_why prog_10_method_70_code 3 (Option.some Jvm.ClassFile.FieldType.int) 1 := ⟨⟨⟨tw_1320, tw_67, tw_1323⟩, rfl, by decide +kernel⟩, tw_1321, tw_1322, rfl⟩
theorem kL_126 : mthV RL 126 7 yX7_sheet prog_1_method_29_code 4 (Option.some Jvm.ClassFile.FieldType.int) 3 := ⟨⟨⟨tw_841, tw_60, tw_844⟩, rfl, by decide +kernel⟩, tw_842, tw_843, rfl⟩
theorem kL_129 : mthV RL 129 8 yX8_sheet prog_10_method_75_code 5 (Option.some Jvm.ClassFile.FieldType.int) 3 := ⟨⟨⟨tw_1324, tw_67, tw_1327⟩, rfl, by decide +kernel⟩, tw_1325, tw_1326, rfl⟩
theorem kL_130 : mthV RL 130 7 yX7_mark prog_1_method_30_code 5 (Option.some Jvm.ClassFile.FieldType.int) 3 := ⟨⟨⟨tw_850, tw_60, tw_853⟩, rfl, by decide +kernel⟩, tw_851, tw_852, rfl⟩
theorem kL_133 : mthV RL 133 8 yX8_mark prog_10_method_76_code 4 (Option.some Jvm.ClassFile.FieldType.int) 3 := ⟨⟨⟨tw_1329, tw_67, tw_1332⟩, rfl, by decide +kernel⟩, tw_1330, tw_1331, rfl⟩
theorem kL_134 : mthV RL 134 7 yX7_pour prog_1_method_31_code 6 (Option.some Jvm.ClassFile.FieldType.int) 1 := ⟨⟨⟨tw_858, tw_60, tw_861⟩, rfl, by decide +kernel⟩, tw_859, tw_860, rfl⟩
theorem kL_137 : mthV RL 137 8 yX8_pour prog_10_method_77_code 6 (Option.some Jvm.ClassFile.FieldType.int) 1 := ⟨⟨⟨tw_1336, tw_67, tw_1339⟩, rfl, by decide +kernel⟩, tw_1337, tw_1338, rfl⟩
theorem kL_138 : mthV RL 138 7 yX7_reads prog_1_method_32_code 4 (Option.some Jvm.ClassFile.FieldType.int) 1 := ⟨⟨⟨tw_864, tw_60, tw_867⟩, rfl, by decide +kernel⟩, tw_865, tw_866, rfl⟩
theorem kL_141 : mthV RL 141 8 yX8_reads prog_10_method_78_code 4 (Option.some Jvm.ClassFile.FieldType.int) 1 := ⟨⟨⟨tw_1340, tw_67, tw_1343⟩, rfl, by decide +kernel⟩, tw_1341, tw_1342, rfl⟩
theorem kL_142 : mthV RL 142 7 yX7_copy prog_1_method_33_code 8 (Option.some Jvm.ClassFile.FieldType.int) 5 := ⟨⟨⟨tw_868, tw_60, tw_871⟩, rfl, by decide +kernel⟩, tw_869, tw_870, rfl⟩
theorem kL_145 : mthV RL 145 8 yX8_copy prog_10_method_79_code 7 (Option.some Jvm.ClassFile.FieldType.int) 5 := ⟨⟨⟨tw_1344, tw_67, tw_1347⟩, rfl, by decide +kernel⟩, tw_1345, tw_1346, rfl⟩
theorem kL_146 : mthV RL 146 7 yX7_lay prog_1_method_34_code 6 (Option.some Jvm.ClassFile.FieldType.int) 3 := ⟨⟨⟨tw_879, tw_60, tw_882⟩, rfl, by decide +kernel⟩, tw_880, tw_881, rfl⟩
theorem kL_149 : mthV RL 149 8 yX8_lay prog_10_method_80_code 6 (Option.some Jvm.ClassFile.FieldType.int) 3 := ⟨⟨⟨tw_1348, tw_67, tw_1351⟩, rfl, by decide +kernel⟩, tw_1349, tw_1350, rfl⟩
theorem kL_150 : mthV RL 150 7 yX7_ask prog_1_method_35_code 4 (Option.some Jvm.ClassFile.FieldType.int) 2 := ⟨⟨⟨tw_890, tw_60, tw_893⟩, rfl, by decide +kernel⟩, tw_891, tw_892, rfl⟩
theorem kL_153 : mthV RL 153 8 yX8_ask prog_10_method_81_code 3 (Option.some Jvm.ClassFile.FieldType.int) 2 := ⟨⟨⟨tw_1355, tw_67, tw_1358⟩, rfl, by decide +kernel⟩, tw_1356, tw_1357, rfl⟩
theorem kL_154 : mthV RL 154 7 yX7_item prog_1_method_36_code 4 (Option.some Jvm.ClassFile.FieldType.int) 2 := ⟨⟨⟨tw_894, tw_60, tw_897⟩, rfl, by decide +kernel⟩, tw_895, tw_896, rfl⟩
theorem kL_157 : mthV RL 157 8 yX8_item prog_10_method_82_code 4 (Option.some Jvm.ClassFile.FieldType.int) 2 := ⟨⟨⟨tw_1359, tw_67, tw_1362⟩, rfl, by decide +kernel⟩, tw_1360, tw_1361, rfl⟩
theorem kL_158 : mthV RL 158 7 yX7_rest prog_1_method_37_code 4 (Option.some Jvm.ClassFile.FieldType.int) 2 := ⟨⟨⟨tw_898, tw_60, tw_901⟩, rfl, by decide +kernel⟩, tw_899, tw_900, rfl⟩
theorem kL_161 : mthV RL 161 8 yX8_rest prog_10_method_83_code 3 (Option.some Jvm.ClassFile.FieldType.int) 2 := ⟨⟨⟨tw_1363, tw_67, tw_1366⟩, rfl, by decide +kernel⟩, tw_1364, tw_1365, rfl⟩
theorem kL_162 : mthV RL 162 7 yX7_tell prog_1_method_38_code 2 (Option.some Jvm.ClassFile.FieldType.int) 1 := ⟨⟨⟨tw_903, tw_60, tw_906⟩, rfl, by decide +kernel⟩, tw_904, tw_905, rfl⟩
theorem kL_165 : mthV RL 165 8 yX8_tell prog_10_method_84_code 2 (Option.some Jvm.ClassFile.FieldType.int) 1 := ⟨⟨⟨tw_1368, tw_67, tw_1371⟩, rfl, by decide +kernel⟩, tw_1369, tw_1370, rfl⟩
theorem kL_166 : mthV RL 166 7 yX7_check prog_1_method_39_code 6 (Option.some Jvm.ClassFile.FieldType.int) 1 := ⟨⟨⟨tw_907, tw_60, tw_910⟩, rfl, by decide +kernel⟩, tw_908, tw_909, rfl⟩
theorem kL_169 : mthV RL 169 8 yX8_check prog_10_method_85_code 6 (Option.some Jvm.ClassFile.FieldType.int) 1 := ⟨⟨⟨tw_1372, tw_67, tw_1375⟩, rfl, by decide +kernel⟩, tw_1373, tw_1374, rfl⟩
theorem kL_170 : mthV RL 170 7 yX7_keep prog_1_method_40_code 1 (Option.some Jvm.ClassFile.FieldType.int) 0 := ⟨⟨⟨tw_915, tw_60, tw_918⟩, rfl, by decide +kernel⟩, tw_916, tw_917, rfl⟩
theorem kL_173 : mthV RL 173 8 yX8_keep prog_10_method_86_code 1 (Option.some Jvm.ClassFile.FieldType.int) 0 := ⟨⟨⟨tw_1379, tw_67, tw_1382⟩, rfl, by decide +kernel⟩, tw_1380, tw_1381, rfl⟩
theorem kL_174 : mthV RL 174 7 yX7_back prog_1_method_41_code 1 (Option.some Jvm.ClassFile.FieldType.int) 0 := ⟨⟨⟨tw_919, tw_60, tw_922⟩, rfl, by decide +kernel⟩, tw_920, tw_921, rfl⟩
theorem kL_177 : mthV RL 177 8 yX8_back prog_10_method_87_code 1 (Option.some Jvm.ClassFile.FieldType.int) 0 := ⟨⟨⟨tw_1383, tw_67, tw_1386⟩, rfl, by decide +kernel⟩, tw_1384, tw_1385, rfl⟩
theorem kL_178 : mthV RL 178 7 yX7_count prog_1_method_42_code 2 (Option.some Jvm.ClassFile.FieldType.int) 1 := ⟨⟨⟨tw_923, tw_60, tw_926⟩, rfl, by decide +kernel⟩, tw_924, tw_925, rfl⟩
theorem kL_181 : mthV RL 181 8 yX8_count prog_10_method_89_code 2 (Option.some Jvm.ClassFile.FieldType.int) 1 := ⟨⟨⟨tw_1387, tw_67, tw_1390⟩, rfl, by decide +kernel⟩, tw_1388, tw_1389, rfl⟩
theorem nL_7 : clsOK RL 7 7 11 := ⟨_, _, tyX7, ⟨rfl, iX7, rfl, by decide⟩, tyX7_ok, by decide, tw_77, tw_78, tw_60⟩
theorem kL_9 : mthI RL 9 yX7_init prog_1_method_1_code 2 0 := ⟨⟨⟨tw_79, tw_60, tw_81⟩, rfl, by decide +kernel⟩, tw_80, rfl⟩
theorem nL_10 : clsOK RL 10 8 34 := ⟨_, _, tyX8, ⟨rfl, iX8, rfl, by decide⟩, tyX8_ok, by decide, tw_931, tw_932, tw_67⟩
theorem kL_12 : mthI RL 12 yX8_init prog_10_method_1_code 1 0 := ⟨⟨⟨tw_933, tw_67, tw_935⟩, rfl, by decide +kernel⟩, tw_934, rfl⟩
def BL_law_1425 (L : Nat) (xs : Nat → Int32) (K18 : Nat → (Nat → Nat) → HC → Nat → Nat → Int32 → Prop) (M : Nat) (ln : Nat → Nat) (S : HC) (x1 x2 : Nat) (x3 : Int32) : Prop := lt_ (x3 + (6 : Int32)) fun z1 => K18 M ln S x1 x2 z1
def LL_law_18 (L : Nat) (xs : Nat → Int32) : Nat → Nat → (Nat → Nat) → HC → Nat → Nat → Int32 → Prop
  | 0 => fun _ _ _ _ _ _ => False
  | n18 + 1 => fun M ln S x1 x2 x3 => lt_ (nI L) fun z2 => lt_ (z2 - (6 : Int32)) fun z3 => if z3 < x3 then (True) else (al_ L x3 xs fun z4 => lt_ (z4 &&& (63 : Int32)) fun z5 => if z5 = (0 : Int32) then (lt_ (x3 + (1 : Int32)) fun z6 => al_ L z6 xs fun z7 => lt_ (x3 + (2 : Int32)) fun z8 => al_ L z8 xs fun z9 => lt_ (x3 + (3 : Int32)) fun z10 => al_ L z10 xs fun z11 => lt_ (x3 + (4 : Int32)) fun z12 => al_ L z12 xs fun z13 => lt_ (x3 + (5 : Int32)) fun z14 => al_ L z14 xs fun z15 => wpX7_person ln S x1 z7 z9 z11 z13 z15 fun z16 S => lt_ (x3 + (1 : Int32)) fun z17 => al_ L z17 xs fun z18 => lt_ (x3 + (2 : Int32)) fun z19 => al_ L z19 xs fun z20 => lt_ (x3 + (3 : Int32)) fun z21 => al_ L z21 xs fun z22 => lt_ (x3 + (4 : Int32)) fun z23 => al_ L z23 xs fun z24 => lt_ (x3 + (5 : Int32)) fun z25 => al_ L z25 xs fun z26 => wpX8_person ln S x2 z18 z20 z22 z24 z26 fun z27 S => BL_law_1425 L xs (LL_law_18 L xs n18) M ln S x1 x2 x3) else if z5 = (1 : Int32) then (lt_ (x3 + (1 : Int32)) fun z28 => al_ L z28 xs fun z29 => lt_ (x3 + (2 : Int32)) fun z30 => al_ L z30 xs fun z31 => wpX7_told ln S x1 z29 z31 fun z32 S => lt_ (x3 + (1 : Int32)) fun z33 => al_ L z33 xs fun z34 => lt_ (x3 + (2 : Int32)) fun z35 => al_ L z35 xs fun z36 => wpX8_told ln S x2 z34 z36 fun z37 S => BL_law_1425 L xs (LL_law_18 L xs n18) M ln S x1 x2 x3) else if z5 = (2 : Int32) then (lt_ (x3 + (1 : Int32)) fun z38 => al_ L z38 xs fun z39 => lt_ (x3 + (2 : Int32)) fun z40 => al_ L z40 xs fun z41 => wpX7_bears ln S x1 z39 z41 fun z42 S => lt_ (x3 + (1 : Int32)) fun z43 => al_ L z43 xs fun z44 => lt_ (x3 + (2 : Int32)) fun z45 => al_ L z45 xs fun z46 => wpX8_bears ln S x2 z44 z46 fun z47 S => BL_law_1425 L xs (LL_law_18 L xs n18) M ln S x1 x2 x3) else if z5 = (3 : Int32) then (lt_ (x3 + (1 : Int32)) fun z48 => al_ L z48 xs fun z49 => lt_ (x3 + (2 : Int32)) fun z50 => al_ L z50 xs fun z51 => wpX7_as ln S x1 z49 z51 fun z52 S => lt_ (x3 + (1 : Int32)) fun z53 => al_ L z53 xs fun z54 => lt_ (x3 + (2 : Int32)) fun z55 => al_ L z55 xs fun z56 => wpX8_as ln S x2 z54 z56 fun z57 S => BL_law_1425 L xs (LL_law_18 L xs n18) M ln S x1 x2 x3) else if z5 = (4 : Int32) then (lt_ (x3 + (1 : Int32)) fun z58 => al_ L z58 xs fun z59 => lt_ (x3 + (2 : Int32)) fun z60 => al_ L z60 xs fun z61 => wpX7_turns ln S x1 z59 z61 fun z62 S => lt_ (x3 + (1 : Int32)) fun z63 => al_ L z63 xs fun z64 => lt_ (x3 + (2 : Int32)) fun z65 => al_ L z65 xs fun z66 => wpX8_turns ln S x2 z64 z66 fun z67 S => BL_law_1425 L xs (LL_law_18 L xs n18) M ln S x1 x2 x3) else if z5 = (5 : Int32) then (lt_ (x3 + (1 : Int32)) fun z68 => al_ L z68 xs fun z69 => lt_ (x3 + (2 : Int32)) fun z70 => al_ L z70 xs fun z71 => lt_ (x3 + (3 : Int32)) fun z72 => al_ L z72 xs fun z73 => wpX7_set ln S x1 z69 z71 z73 fun z74 S => lt_ (x3 + (1 : Int32)) fun z75 => al_ L z75 xs fun z76 => lt_ (x3 + (2 : Int32)) fun z77 => al_ L z77 xs fun z78 => lt_ (x3 + (3 : Int32)) fun z79 => al_ L z79 xs fun z80 => wpX8_set ln S x2 z76 z78 z80 fun z81 S => BL_law_1425 L xs (LL_law_18 L xs n18) M ln S x1 x2 x3) else if z5 = (6 : Int32) then (lt_ (x3 + (1 : Int32)) fun z82 => al_ L z82 xs fun z83 => wpX7_fertile ln S x1 z83 fun z84 S => lt_ (x3 + (1 : Int32)) fun z85 => al_ L z85 xs fun z86 => wpX8_fertile ln S x2 z86 fun z87 S => BL_law_1425 L xs (LL_law_18 L xs n18) M ln S x1 x2 x3) else if z5 = (7 : Int32) then (lt_ (x3 + (1 : Int32)) fun z88 => al_ L z88 xs fun z89 => wpX7_deal ln S x1 z89 fun z90 S => lt_ (x3 + (1 : Int32)) fun z91 => al_ L z91 xs fun z92 => wpX8_deal ln S x2 z92 fun z93 S => BL_law_1425 L xs (LL_law_18 L xs n18) M ln S x1 x2 x3) else if z5 = (8 : Int32) then (lt_ (x3 + (1 : Int32)) fun z94 => al_ L z94 xs fun z95 => wpX7_seed ln S x1 z95 fun z96 S => lt_ (x3 + (1 : Int32)) fun z97 => al_ L z97 xs fun z98 => wpX8_seed ln S x2 z98 fun z99 S => BL_law_1425 L xs (LL_law_18 L xs n18) M ln S x1 x2 x3) else if z5 = (9 : Int32) then (lt_ (x3 + (1 : Int32)) fun z100 => al_ L z100 xs fun z101 => wpX7_years ln S x1 z101 fun z102 S => lt_ (x3 + (1 : Int32)) fun z103 => al_ L z103 xs fun z104 => wpX8_years ln S x2 z104 fun z105 S => BL_law_1425 L xs (LL_law_18 L xs n18) M ln S x1 x2 x3) else if z5 = (10 : Int32) then (lt_ (x3 + (1 : Int32)) fun z106 => al_ L z106 xs fun z107 => lt_ (x3 + (2 : Int32)) fun z108 => al_ L z108 xs fun z109 => wpX7_alike ln S x1 z107 z109 fun z110 S => lt_ (x3 + (1 : Int32)) fun z111 => al_ L z111 xs fun z112 => lt_ (x3 + (2 : Int32)) fun z113 => al_ L z113 xs fun z114 => wpX8_alike ln S x2 z112 z114 fun z115 S => BL_law_1425 L xs (LL_law_18 L xs n18) M ln S x1 x2 x3) else if z5 = (11 : Int32) then (lt_ (x3 + (1 : Int32)) fun z116 => al_ L z116 xs fun z117 => wpX7_land ln S x1 z117 fun z118 S => lt_ (x3 + (1 : Int32)) fun z119 => al_ L z119 xs fun z120 => wpX8_land ln S x2 z120 fun z121 S => BL_law_1425 L xs (LL_law_18 L xs n18) M ln S x1 x2 x3) else if z5 = (12 : Int32) then (lt_ (x3 + (1 : Int32)) fun z122 => al_ L z122 xs fun z123 => wpX7_sixteenth ln S x1 z123 fun z124 S => lt_ (x3 + (1 : Int32)) fun z125 => al_ L z125 xs fun z126 => wpX8_sixteenth ln S x2 z126 fun z127 S => BL_law_1425 L xs (LL_law_18 L xs n18) M ln S x1 x2 x3) else if z5 = (13 : Int32) then (lt_ (x3 + (1 : Int32)) fun z128 => al_ L z128 xs fun z129 => lt_ (x3 + (2 : Int32)) fun z130 => al_ L z130 xs fun z131 => wpX7_from ln S x1 z129 z131 fun z132 S => lt_ (x3 + (1 : Int32)) fun z133 => al_ L z133 xs fun z134 => lt_ (x3 + (2 : Int32)) fun z135 => al_ L z135 xs fun z136 => wpX8_from ln S x2 z134 z136 fun z137 S => BL_law_1425 L xs (LL_law_18 L xs n18) M ln S x1 x2 x3) else if z5 = (14 : Int32) then (lt_ (x3 + (1 : Int32)) fun z138 => al_ L z138 xs fun z139 => lt_ (x3 + (2 : Int32)) fun z140 => al_ L z140 xs fun z141 => lt_ (x3 + (3 : Int32)) fun z142 => al_ L z142 xs fun z143 => wpX7_match ln S x1 z139 z141 z143 fun z144 S => lt_ (x3 + (1 : Int32)) fun z145 => al_ L z145 xs fun z146 => lt_ (x3 + (2 : Int32)) fun z147 => al_ L z147 xs fun z148 => lt_ (x3 + (3 : Int32)) fun z149 => al_ L z149 xs fun z150 => wpX8_match ln S x2 z146 z148 z150 fun z151 S => BL_law_1425 L xs (LL_law_18 L xs n18) M ln S x1 x2 x3) else if z5 = (15 : Int32) then (wpX7_repaint ln S x1 fun z152 S => wpX8_repaint ln S x2 fun z153 S => BL_law_1425 L xs (LL_law_18 L xs n18) M ln S x1 x2 x3) else if z5 = (16 : Int32) then (lt_ (x3 + (1 : Int32)) fun z154 => al_ L z154 xs fun z155 => lt_ (x3 + (2 : Int32)) fun z156 => al_ L z156 xs fun z157 => wpX7_behind ln S x1 z155 z157 fun z158 S => lt_ (x3 + (1 : Int32)) fun z159 => al_ L z159 xs fun z160 => lt_ (x3 + (2 : Int32)) fun z161 => al_ L z161 xs fun z162 => wpX8_behind ln S x2 z160 z162 fun z163 S => BL_law_1425 L xs (LL_law_18 L xs n18) M ln S x1 x2 x3) else if z5 = (17 : Int32) then (wpX7_born ln S x1 fun z164 S => wpX8_born ln S x2 fun z165 S => BL_law_1425 L xs (LL_law_18 L xs n18) M ln S x1 x2 x3) else if z5 = (18 : Int32) then (lt_ (x3 + (1 : Int32)) fun z166 => al_ L z166 xs fun z167 => lt_ (x3 + (2 : Int32)) fun z168 => al_ L z168 xs fun z169 => wpX7_gone ln S x1 z167 z169 fun z170 S => lt_ (x3 + (1 : Int32)) fun z171 => al_ L z171 xs fun z172 => lt_ (x3 + (2 : Int32)) fun z173 => al_ L z173 xs fun z174 => wpX8_gone ln S x2 z172 z174 fun z175 S => BL_law_1425 L xs (LL_law_18 L xs n18) M ln S x1 x2 x3) else if z5 = (19 : Int32) then (lt_ (x3 + (1 : Int32)) fun z176 => al_ L z176 xs fun z177 => lt_ (x3 + (2 : Int32)) fun z178 => al_ L z178 xs fun z179 => wpX7_spoon ln S x1 z177 z179 fun z180 S => lt_ (x3 + (1 : Int32)) fun z181 => al_ L z181 xs fun z182 => lt_ (x3 + (2 : Int32)) fun z183 => al_ L z183 xs fun z184 => wpX8_spoon ln S x2 z182 z184 fun z185 S => BL_law_1425 L xs (LL_law_18 L xs n18) M ln S x1 x2 x3) else if z5 = (20 : Int32) then (wpX7_fee ln S x1 fun z186 S => wpX8_fee ln S x2 fun z187 S => BL_law_1425 L xs (LL_law_18 L xs n18) M ln S x1 x2 x3) else if z5 = (21 : Int32) then (lt_ (x3 + (1 : Int32)) fun z188 => al_ L z188 xs fun z189 => wpX7_fine ln S x1 z189 fun z190 S => lt_ (x3 + (1 : Int32)) fun z191 => al_ L z191 xs fun z192 => wpX8_fine ln S x2 z192 fun z193 S => BL_law_1425 L xs (LL_law_18 L xs n18) M ln S x1 x2 x3) else if z5 = (22 : Int32) then (lt_ (x3 + (1 : Int32)) fun z194 => al_ L z194 xs fun z195 => lt_ (x3 + (2 : Int32)) fun z196 => al_ L z196 xs fun z197 => lt_ (x3 + (3 : Int32)) fun z198 => al_ L z198 xs fun z199 => wpX7_feed ln S x1 z195 z197 z199 fun z200 S => lt_ (x3 + (1 : Int32)) fun z201 => al_ L z201 xs fun z202 => lt_ (x3 + (2 : Int32)) fun z203 => al_ L z203 xs fun z204 => lt_ (x3 + (3 : Int32)) fun z205 => al_ L z205 xs fun z206 => wpX8_feed ln S x2 z202 z204 z206 fun z207 S => BL_law_1425 L xs (LL_law_18 L xs n18) M ln S x1 x2 x3) else if z5 = (23 : Int32) then (lt_ (x3 + (1 : Int32)) fun z208 => al_ L z208 xs fun z209 => wpX7_trim ln S x1 z209 fun z210 S => lt_ (x3 + (1 : Int32)) fun z211 => al_ L z211 xs fun z212 => wpX8_trim ln S x2 z212 fun z213 S => BL_law_1425 L xs (LL_law_18 L xs n18) M ln S x1 x2 x3) else if z5 = (24 : Int32) then (wpX7_text M ln S x1 fun z215 N214 ln S => wpX8_text ln S x2 fun z216 S => BL_law_1425 L xs (LL_law_18 L xs n18) N214 ln S x1 x2 x3) else if z5 = (25 : Int32) then (lt_ (x3 + (1 : Int32)) fun z217 => al_ L z217 xs fun z218 => lt_ (x3 + (2 : Int32)) fun z219 => al_ L z219 xs fun z220 => wpX7_textTold ln S x1 z218 z220 fun z221 S => lt_ (x3 + (1 : Int32)) fun z222 => al_ L z222 xs fun z223 => lt_ (x3 + (2 : Int32)) fun z224 => al_ L z224 xs fun z225 => wpX8_textTold ln S x2 z223 z225 fun z226 S => BL_law_1425 L xs (LL_law_18 L xs n18) M ln S x1 x2 x3) else if z5 = (26 : Int32) then (lt_ (x3 + (1 : Int32)) fun z227 => al_ L z227 xs fun z228 => wpX7_why ln S x1 z228 fun z229 S => lt_ (x3 + (1 : Int32)) fun z230 => al_ L z230 xs fun z231 => wpX8_why ln S x2 z231 fun z232 S => BL_law_1425 L xs (LL_law_18 L xs n18) M ln S x1 x2 x3) else if z5 = (27 : Int32) then (lt_ (x3 + (1 : Int32)) fun z233 => al_ L z233 xs fun z234 => lt_ (x3 + (2 : Int32)) fun z235 => al_ L z235 xs fun z236 => lt_ (x3 + (3 : Int32)) fun z237 => al_ L z237 xs fun z238 => wpX7_sheet ln S x1 z234 z236 z238 fun z239 S => lt_ (x3 + (1 : Int32)) fun z240 => al_ L z240 xs fun z241 => lt_ (x3 + (2 : Int32)) fun z242 => al_ L z242 xs fun z243 => lt_ (x3 + (3 : Int32)) fun z244 => al_ L z244 xs fun z245 => wpX8_sheet ln S x2 z241 z243 z245 fun z246 S => BL_law_1425 L xs (LL_law_18 L xs n18) M ln S x1 x2 x3) else if z5 = (28 : Int32) then (lt_ (x3 + (1 : Int32)) fun z247 => al_ L z247 xs fun z248 => lt_ (x3 + (2 : Int32)) fun z249 => al_ L z249 xs fun z250 => lt_ (x3 + (3 : Int32)) fun z251 => al_ L z251 xs fun z252 => wpX7_mark ln S x1 z248 z250 z252 fun z253 S => lt_ (x3 + (1 : Int32)) fun z254 => al_ L z254 xs fun z255 => lt_ (x3 + (2 : Int32)) fun z256 => al_ L z256 xs fun z257 => lt_ (x3 + (3 : Int32)) fun z258 => al_ L z258 xs fun z259 => wpX8_mark ln S x2 z255 z257 z259 fun z260 S => BL_law_1425 L xs (LL_law_18 L xs n18) M ln S x1 x2 x3) else if z5 = (29 : Int32) then (lt_ (x3 + (1 : Int32)) fun z261 => al_ L z261 xs fun z262 => wpX7_pour ln S x1 z262 fun z263 S => lt_ (x3 + (1 : Int32)) fun z264 => al_ L z264 xs fun z265 => wpX8_pour ln S x2 z265 fun z266 S => BL_law_1425 L xs (LL_law_18 L xs n18) M ln S x1 x2 x3) else if z5 = (30 : Int32) then (lt_ (x3 + (1 : Int32)) fun z267 => al_ L z267 xs fun z268 => wpX7_reads ln S x1 z268 fun z269 S => lt_ (x3 + (1 : Int32)) fun z270 => al_ L z270 xs fun z271 => wpX8_reads ln S x2 z271 fun z272 S => BL_law_1425 L xs (LL_law_18 L xs n18) M ln S x1 x2 x3) else if z5 = (31 : Int32) then (lt_ (x3 + (1 : Int32)) fun z273 => al_ L z273 xs fun z274 => lt_ (x3 + (2 : Int32)) fun z275 => al_ L z275 xs fun z276 => lt_ (x3 + (3 : Int32)) fun z277 => al_ L z277 xs fun z278 => lt_ (x3 + (4 : Int32)) fun z279 => al_ L z279 xs fun z280 => lt_ (x3 + (5 : Int32)) fun z281 => al_ L z281 xs fun z282 => wpX7_copy ln S x1 z274 z276 z278 z280 z282 fun z283 S => lt_ (x3 + (1 : Int32)) fun z284 => al_ L z284 xs fun z285 => lt_ (x3 + (2 : Int32)) fun z286 => al_ L z286 xs fun z287 => lt_ (x3 + (3 : Int32)) fun z288 => al_ L z288 xs fun z289 => lt_ (x3 + (4 : Int32)) fun z290 => al_ L z290 xs fun z291 => lt_ (x3 + (5 : Int32)) fun z292 => al_ L z292 xs fun z293 => wpX8_copy ln S x2 z285 z287 z289 z291 z293 fun z294 S => BL_law_1425 L xs (LL_law_18 L xs n18) M ln S x1 x2 x3) else if z5 = (32 : Int32) then (lt_ (x3 + (1 : Int32)) fun z295 => al_ L z295 xs fun z296 => lt_ (x3 + (2 : Int32)) fun z297 => al_ L z297 xs fun z298 => lt_ (x3 + (3 : Int32)) fun z299 => al_ L z299 xs fun z300 => wpX7_lay ln S x1 z296 z298 z300 fun z301 S => lt_ (x3 + (1 : Int32)) fun z302 => al_ L z302 xs fun z303 => lt_ (x3 + (2 : Int32)) fun z304 => al_ L z304 xs fun z305 => lt_ (x3 + (3 : Int32)) fun z306 => al_ L z306 xs fun z307 => wpX8_lay ln S x2 z303 z305 z307 fun z308 S => BL_law_1425 L xs (LL_law_18 L xs n18) M ln S x1 x2 x3) else if z5 = (33 : Int32) then (lt_ (x3 + (1 : Int32)) fun z309 => al_ L z309 xs fun z310 => lt_ (x3 + (2 : Int32)) fun z311 => al_ L z311 xs fun z312 => wpX7_ask ln S x1 z310 z312 fun z313 S => lt_ (x3 + (1 : Int32)) fun z314 => al_ L z314 xs fun z315 => lt_ (x3 + (2 : Int32)) fun z316 => al_ L z316 xs fun z317 => wpX8_ask ln S x2 z315 z317 fun z318 S => BL_law_1425 L xs (LL_law_18 L xs n18) M ln S x1 x2 x3) else if z5 = (34 : Int32) then (lt_ (x3 + (1 : Int32)) fun z319 => al_ L z319 xs fun z320 => lt_ (x3 + (2 : Int32)) fun z321 => al_ L z321 xs fun z322 => wpX7_item ln S x1 z320 z322 fun z323 S => lt_ (x3 + (1 : Int32)) fun z324 => al_ L z324 xs fun z325 => lt_ (x3 + (2 : Int32)) fun z326 => al_ L z326 xs fun z327 => wpX8_item ln S x2 z325 z327 fun z328 S => BL_law_1425 L xs (LL_law_18 L xs n18) M ln S x1 x2 x3) else if z5 = (35 : Int32) then (lt_ (x3 + (1 : Int32)) fun z329 => al_ L z329 xs fun z330 => lt_ (x3 + (2 : Int32)) fun z331 => al_ L z331 xs fun z332 => wpX7_rest ln S x1 z330 z332 fun z333 S => lt_ (x3 + (1 : Int32)) fun z334 => al_ L z334 xs fun z335 => lt_ (x3 + (2 : Int32)) fun z336 => al_ L z336 xs fun z337 => wpX8_rest ln S x2 z335 z337 fun z338 S => BL_law_1425 L xs (LL_law_18 L xs n18) M ln S x1 x2 x3) else if z5 = (36 : Int32) then (lt_ (x3 + (1 : Int32)) fun z339 => al_ L z339 xs fun z340 => wpX7_tell ln S x1 z340 fun z341 S => lt_ (x3 + (1 : Int32)) fun z342 => al_ L z342 xs fun z343 => wpX8_tell ln S x2 z343 fun z344 S => BL_law_1425 L xs (LL_law_18 L xs n18) M ln S x1 x2 x3) else if z5 = (37 : Int32) then (lt_ (x3 + (1 : Int32)) fun z345 => al_ L z345 xs fun z346 => wpX7_check ln S x1 z346 fun z347 S => lt_ (x3 + (1 : Int32)) fun z348 => al_ L z348 xs fun z349 => wpX8_check ln S x2 z349 fun z350 S => BL_law_1425 L xs (LL_law_18 L xs n18) M ln S x1 x2 x3) else if z5 = (38 : Int32) then (wpX7_keep ln S x1 fun z351 S => wpX8_keep ln S x2 fun z352 S => BL_law_1425 L xs (LL_law_18 L xs n18) M ln S x1 x2 x3) else if z5 = (39 : Int32) then (wpX7_back ln S x1 fun z353 S => wpX8_back ln S x2 fun z354 S => BL_law_1425 L xs (LL_law_18 L xs n18) M ln S x1 x2 x3) else if z5 = (40 : Int32) then (lt_ (x3 + (1 : Int32)) fun z355 => al_ L z355 xs fun z356 => wpX7_count ln S x1 z356 fun z357 S => lt_ (x3 + (1 : Int32)) fun z358 => al_ L z358 xs fun z359 => wpX8_count ln S x2 z359 fun z360 S => if z357 = z360 then (BL_law_1425 L xs (LL_law_18 L xs n18) M ln S x1 x2 x3) else (False)) else BL_law_1425 L xs (LL_law_18 L xs n18) M ln S x1 x2 x3)
def wpL_law (L : Nat) (xs : Nat → Int32) (ln : Nat → Nat) (S : HC) : Prop := nw_ 0 7 ln S fun N361 ln S => wpX7_init N361 ln S 0 fun N362 ln S => nw_ N362 8 ln S fun N363 ln S => wpX8_init N363 ln S N362 fun N364 ln S => LL_law_18 L xs 1000 N364 ln S 0 N362 (0 : Int32)
set_option maxHeartbeats 40000000 in
set_option maxRecDepth 100000 in
theorem law_loop {p : Program} {e : Env} {s : State} {m : MethodId} {below : List Frame} {meth : Method} {c : Code} {l : Launch} {g : GX} {b L : Nat} {xs : Nat → Int32} (C0 : lw_At p s m meth c b L xs) (F : CallFix p m c code 4 s #[Value.ref b] gtbl RL) (hgz : gz g = s.heap.size) : ∀ (n18 cells slots : Nat), cells + 2 * n18 ≤ 600000 → slots + 99 * n18 ≤ 7302250 → ∀ (M : Nat) (ln : Nat → Nat) (S : HC) (H : Heap) (locs : List Loc) (ls : Array Slot) (x1 x2 : Nat) (x3 : Int32), 0 ≤ M → x1 < M → kd x1 = 7 → x2 < M → kd x2 = 8 → LL_law_18 L xs n18 M ln S x1 x2 x3 → Inv g M ln S s H locs → lv_has ls 4 [(0, .ref b), (1, .ref (gz g + x1)), (2, .ref (gz g + x2)), (3, .int x3)] → W p l e room_1 s m #[Value.ref b] below meth c H locs cells slots (lw_Z below #[Value.ref b] s) (F0 m 18 ls []) := by
  obtain ⟨hx, hb, hr, hml, hown, hts, hX, hbl, hlocks, hgv⟩ := C0
  have hbA : ¬ gF g b := Nat.not_le.mpr (by rw [hgz]; exact hbl)
  intro n18
  induction n18 with
  | zero =>
    intro cells slots hc hs M ln S H locs ls x1 x2 x3 hN hr_x1 hk_x1 hr_x2 hk_x2 h I hl
    exact h.elim
  | succ n18 hk18 =>
    intro cells slots hc hs
    have hj_1425 : ∀ (M : Nat) (ln : Nat → Nat) (S : HC) (H : Heap) (locs : List Loc) (ls : Array Slot) (x1 x2 : Nat) (x3 : Int32), 0 ≤ M → x1 < M → kd x1 = 7 → x2 < M → kd x2 = 8 → BL_law_1425 L xs (LL_law_18 L xs n18) M ln S x1 x2 x3 → Inv g M ln S s H locs → lv_has ls 4 [(0, .ref b), (1, .ref (gz g + x1)), (2, .ref (gz g + x2)), (3, .int x3)] → W p l e room_1 s m #[Value.ref b] below meth c H locs (cells + 2) (slots + 99) (lw_Z below #[Value.ref b] s) (F0 m 1425 ls []) := by
      intro M ln S H locs ls x1 x2 x3 hN hr_x1 hk_x1 hr_x2 hk_x2 h I hl
      unfold BL_law_1425 at h
      obtain ⟨z1, e_z1, h⟩ := lt_x h
      refine lv_iinc (v := z1) (lv' := [(3, .int z1), (0, .ref b), (1, .ref (gz g + x1)), (2, .ref (gz g + x2))]) F.1 F.2.1 dL_law_1425 hl (k := 3) rfl (by rw [e_z1]; rfl) (by decide) rfl (fun ls hl => ?_)
      refine lv_goto (tgt := 18) F.1 F.2.1 dL_law_1428 (by decide) ?_
      exact hk18 (cells + 2) (slots + 99) (by omega) (by omega) M ln S _ _ _ x1 x2 z1 hN hr_x1 hk_x1 hr_x2 hk_x2 h I (lv_sub hl [1, 2, 3, 0] rfl)
    intro M ln S H locs ls x1 x2 x3 hN hr_x1 hk_x1 hr_x2 hk_x2 h I hl
    rw [LL_law_18] at h
    refine lv_iload_n F.1 F.2.1 dL_law_18 rfl (lv_at hl 3 rfl) ?_
    refine lv_aload_n F.1 F.2.1 dL_law_19 rfl (lv_at hl 0 rfl) ?_
    obtain ⟨z2, e_z2, h⟩ := lt_x h
    refine va_slen F.1 F.2.1 hX hbl hbA I.S dL_law_20 ?_
    rw [show Int32.ofNat L = z2 from e_z2.symm]
    refine lv_bipush (v := 6) F.1 F.2.1 dL_law_21 (by decide) ?_
    refine r_isub F dL_law_23 h (fun z3 h => ?_)
    refine r_icmp_gt (tgt := 1431) F dL_law_24 (by decide) h (fun h => ?_) (fun h => ?_)
    · refine lv_iconst (v := 1) F.1 F.2.1 dL_law_1431 (by decide) ?_
      refine va_forget (fun q hq => Nat.le_trans (Nat.le_of_eq hgz.symm) (I.S.2.2 q hq)) ?_
      refine W.widen (k := 600000) (n := 7302250) (by omega) (by omega) ?_
      exact lw_ret hx hb hr hlocks dL_law_1432
    · refine lv_aload_n F.1 F.2.1 dL_law_27 rfl (lv_at hl 0 rfl) ?_
      refine lv_iload_n F.1 F.2.1 dL_law_28 rfl (lv_at hl 3 rfl) ?_
      obtain ⟨hin, h⟩ := h
      refine va_sld F.1 F.2.1 hX hbl hbA I.S hin dL_law_29 ?_
      obtain ⟨z4, e_z4⟩ : ∃ q, q = xs (Int32.toNatClampNeg x3) := ⟨_, rfl⟩
      rw [← e_z4] at h ⊢
      refine lv_bipush (v := 63) F.1 F.2.1 dL_law_30 (by decide) ?_
      refine r_iand F dL_law_32 h (fun z5 h => ?_)
      by_cases c0 : z5 = (0 : Int32)
      · rw [if_pos c0] at h
        refine lv_tableIn (off := 179) (tgt := 212) F.1 F.2.1 dL_law_33 (by rw [c0]; decide) (by rw [c0]; decide) (by rw [c0]; rfl) (by decide) ?_
        refine lv_aload_n F.1 F.2.1 dL_law_212 rfl (lv_at hl 1 rfl) ?_
        refine lv_aload_n F.1 F.2.1 dL_law_213 rfl (lv_at hl 0 rfl) ?_
        refine lv_iload_n F.1 F.2.1 dL_law_214 rfl (lv_at hl 3 rfl) ?_
        refine lv_iconst (v := 1) F.1 F.2.1 dL_law_215 (by decide) ?_
        refine r_iadd F dL_law_216 h (fun z6 h => ?_)
        obtain ⟨hin, h⟩ := h
        refine va_sld F.1 F.2.1 hX hbl hbA I.S hin dL_law_217 ?_
        obtain ⟨z7, e_z7⟩ : ∃ q, q = xs (Int32.toNatClampNeg z6) := ⟨_, rfl⟩
        rw [← e_z7] at h ⊢
        refine lv_aload_n F.1 F.2.1 dL_law_218 rfl (lv_at hl 0 rfl) ?_
        refine lv_iload_n F.1 F.2.1 dL_law_219 rfl (lv_at hl 3 rfl) ?_
        refine lv_iconst (v := 2) F.1 F.2.1 dL_law_220 (by decide) ?_
        refine r_iadd F dL_law_221 h (fun z8 h => ?_)
        obtain ⟨hin, h⟩ := h
        refine va_sld F.1 F.2.1 hX hbl hbA I.S hin dL_law_222 ?_
        obtain ⟨z9, e_z9⟩ : ∃ q, q = xs (Int32.toNatClampNeg z8) := ⟨_, rfl⟩
        rw [← e_z9] at h ⊢
        refine lv_aload_n F.1 F.2.1 dL_law_223 rfl (lv_at hl 0 rfl) ?_
        refine lv_iload_n F.1 F.2.1 dL_law_224 rfl (lv_at hl 3 rfl) ?_
        refine lv_iconst (v := 3) F.1 F.2.1 dL_law_225 (by decide) ?_
        refine r_iadd F dL_law_226 h (fun z10 h => ?_)
        obtain ⟨hin, h⟩ := h
        refine va_sld F.1 F.2.1 hX hbl hbA I.S hin dL_law_227 ?_
        obtain ⟨z11, e_z11⟩ : ∃ q, q = xs (Int32.toNatClampNeg z10) := ⟨_, rfl⟩
        rw [← e_z11] at h ⊢
        refine lv_aload_n F.1 F.2.1 dL_law_228 rfl (lv_at hl 0 rfl) ?_
        refine lv_iload_n F.1 F.2.1 dL_law_229 rfl (lv_at hl 3 rfl) ?_
        refine lv_iconst (v := 4) F.1 F.2.1 dL_law_230 (by decide) ?_
        refine r_iadd F dL_law_231 h (fun z12 h => ?_)
        obtain ⟨hin, h⟩ := h
        refine va_sld F.1 F.2.1 hX hbl hbA I.S hin dL_law_232 ?_
        obtain ⟨z13, e_z13⟩ : ∃ q, q = xs (Int32.toNatClampNeg z12) := ⟨_, rfl⟩
        rw [← e_z13] at h ⊢
        refine lv_aload_n F.1 F.2.1 dL_law_233 rfl (lv_at hl 0 rfl) ?_
        refine lv_iload_n F.1 F.2.1 dL_law_234 rfl (lv_at hl 3 rfl) ?_
        refine lv_iconst (v := 5) F.1 F.2.1 dL_law_235 (by decide) ?_
        refine r_iadd F dL_law_236 h (fun z14 h => ?_)
        obtain ⟨hin, h⟩ := h
        refine va_sld F.1 F.2.1 hX hbl hbA I.S hin dL_law_237 ?_
        obtain ⟨z15, e_z15⟩ : ∃ q, q = xs (Int32.toNatClampNeg z14) := ⟨_, rfl⟩
        rw [← e_z15] at h ⊢
        refine g_I I (run_V (As := [.int z7, .int z9, .int z11, .int z13, .int z15]) (rest := []) F I hr_x1 hk_x1 (by decide) kL_13 (ctX7_person hr_x1 hk_x1 h) ⟨rfl, rfl⟩ ⟨Nat.le_of_ble_eq_true rfl, Nat.le_of_ble_eq_true rfl⟩ rfl hl.1 rfl (Nat.le_of_ble_eq_true rfl) ⟨(by show cells + 0 + 0 ≤ 600000; omega), (by show slots + 0 + 0 ≤ 7302250; omega)⟩ dL_law_238) (fun z16 S H locs I h => ?_)
        refine lv_pop F.1 F.2.1 dL_law_241 rfl ?_
        refine lv_aload_n F.1 F.2.1 dL_law_242 rfl (lv_at hl 2 rfl) ?_
        refine lv_aload_n F.1 F.2.1 dL_law_243 rfl (lv_at hl 0 rfl) ?_
        refine lv_iload_n F.1 F.2.1 dL_law_244 rfl (lv_at hl 3 rfl) ?_
        refine lv_iconst (v := 1) F.1 F.2.1 dL_law_245 (by decide) ?_
        refine r_iadd F dL_law_246 h (fun z17 h => ?_)
        obtain ⟨hin, h⟩ := h
        refine va_sld F.1 F.2.1 hX hbl hbA I.S hin dL_law_247 ?_
        obtain ⟨z18, e_z18⟩ : ∃ q, q = xs (Int32.toNatClampNeg z17) := ⟨_, rfl⟩
        rw [← e_z18] at h ⊢
        refine lv_aload_n F.1 F.2.1 dL_law_248 rfl (lv_at hl 0 rfl) ?_
        refine lv_iload_n F.1 F.2.1 dL_law_249 rfl (lv_at hl 3 rfl) ?_
        refine lv_iconst (v := 2) F.1 F.2.1 dL_law_250 (by decide) ?_
        refine r_iadd F dL_law_251 h (fun z19 h => ?_)
        obtain ⟨hin, h⟩ := h
        refine va_sld F.1 F.2.1 hX hbl hbA I.S hin dL_law_252 ?_
        obtain ⟨z20, e_z20⟩ : ∃ q, q = xs (Int32.toNatClampNeg z19) := ⟨_, rfl⟩
        rw [← e_z20] at h ⊢
        refine lv_aload_n F.1 F.2.1 dL_law_253 rfl (lv_at hl 0 rfl) ?_
        refine lv_iload_n F.1 F.2.1 dL_law_254 rfl (lv_at hl 3 rfl) ?_
        refine lv_iconst (v := 3) F.1 F.2.1 dL_law_255 (by decide) ?_
        refine r_iadd F dL_law_256 h (fun z21 h => ?_)
        obtain ⟨hin, h⟩ := h
        refine va_sld F.1 F.2.1 hX hbl hbA I.S hin dL_law_257 ?_
        obtain ⟨z22, e_z22⟩ : ∃ q, q = xs (Int32.toNatClampNeg z21) := ⟨_, rfl⟩
        rw [← e_z22] at h ⊢
        refine lv_aload_n F.1 F.2.1 dL_law_258 rfl (lv_at hl 0 rfl) ?_
        refine lv_iload_n F.1 F.2.1 dL_law_259 rfl (lv_at hl 3 rfl) ?_
        refine lv_iconst (v := 4) F.1 F.2.1 dL_law_260 (by decide) ?_
        refine r_iadd F dL_law_261 h (fun z23 h => ?_)
        obtain ⟨hin, h⟩ := h
        refine va_sld F.1 F.2.1 hX hbl hbA I.S hin dL_law_262 ?_
        obtain ⟨z24, e_z24⟩ : ∃ q, q = xs (Int32.toNatClampNeg z23) := ⟨_, rfl⟩
        rw [← e_z24] at h ⊢
        refine lv_aload_n F.1 F.2.1 dL_law_263 rfl (lv_at hl 0 rfl) ?_
        refine lv_iload_n F.1 F.2.1 dL_law_264 rfl (lv_at hl 3 rfl) ?_
        refine lv_iconst (v := 5) F.1 F.2.1 dL_law_265 (by decide) ?_
        refine r_iadd F dL_law_266 h (fun z25 h => ?_)
        obtain ⟨hin, h⟩ := h
        refine va_sld F.1 F.2.1 hX hbl hbA I.S hin dL_law_267 ?_
        obtain ⟨z26, e_z26⟩ : ∃ q, q = xs (Int32.toNatClampNeg z25) := ⟨_, rfl⟩
        rw [← e_z26] at h ⊢
        refine g_I I (run_V (As := [.int z18, .int z20, .int z22, .int z24, .int z26]) (rest := []) F I hr_x2 hk_x2 (by decide) kL_17 (ctX8_person hr_x2 hk_x2 h) ⟨rfl, rfl⟩ ⟨Nat.le_of_ble_eq_true rfl, Nat.le_of_ble_eq_true rfl⟩ rfl hl.1 rfl (Nat.le_of_ble_eq_true rfl) ⟨(by show cells + 0 + 0 ≤ 600000; omega), (by show slots + 0 + 0 ≤ 7302250; omega)⟩ dL_law_268) (fun z27 S H locs I h => ?_)
        refine lv_pop F.1 F.2.1 dL_law_271 rfl ?_
        refine lv_goto (tgt := 1425) F.1 F.2.1 dL_law_272 (by decide) ?_
        refine W.widen (k := cells + 2) (n := slots + 99) (by omega) (by omega) ?_
        exact hj_1425 M ln S _ _ _ x1 x2 x3 hN hr_x1 hk_x1 hr_x2 hk_x2 h I (lv_sub hl [0, 1, 2, 3] rfl)
      · rw [if_neg c0] at h
        by_cases c1 : z5 = (1 : Int32)
        · rw [if_pos c1] at h
          refine lv_tableIn (off := 242) (tgt := 275) F.1 F.2.1 dL_law_33 (by rw [c1]; decide) (by rw [c1]; decide) (by rw [c1]; rfl) (by decide) ?_
          refine lv_aload_n F.1 F.2.1 dL_law_275 rfl (lv_at hl 1 rfl) ?_
          refine lv_aload_n F.1 F.2.1 dL_law_276 rfl (lv_at hl 0 rfl) ?_
          refine lv_iload_n F.1 F.2.1 dL_law_277 rfl (lv_at hl 3 rfl) ?_
          refine lv_iconst (v := 1) F.1 F.2.1 dL_law_278 (by decide) ?_
          refine r_iadd F dL_law_279 h (fun z28 h => ?_)
          obtain ⟨hin, h⟩ := h
          refine va_sld F.1 F.2.1 hX hbl hbA I.S hin dL_law_280 ?_
          obtain ⟨z29, e_z29⟩ : ∃ q, q = xs (Int32.toNatClampNeg z28) := ⟨_, rfl⟩
          rw [← e_z29] at h ⊢
          refine lv_aload_n F.1 F.2.1 dL_law_281 rfl (lv_at hl 0 rfl) ?_
          refine lv_iload_n F.1 F.2.1 dL_law_282 rfl (lv_at hl 3 rfl) ?_
          refine lv_iconst (v := 2) F.1 F.2.1 dL_law_283 (by decide) ?_
          refine r_iadd F dL_law_284 h (fun z30 h => ?_)
          obtain ⟨hin, h⟩ := h
          refine va_sld F.1 F.2.1 hX hbl hbA I.S hin dL_law_285 ?_
          obtain ⟨z31, e_z31⟩ : ∃ q, q = xs (Int32.toNatClampNeg z30) := ⟨_, rfl⟩
          rw [← e_z31] at h ⊢
          refine g_I I (run_V (As := [.int z29, .int z31]) (rest := []) F I hr_x1 hk_x1 (by decide) kL_18 (ctX7_told hr_x1 hk_x1 h) ⟨rfl, rfl⟩ ⟨Nat.le_of_ble_eq_true rfl, Nat.le_of_ble_eq_true rfl⟩ rfl hl.1 rfl (Nat.le_of_ble_eq_true rfl) ⟨(by show cells + 0 + 0 ≤ 600000; omega), (by show slots + 0 + 0 ≤ 7302250; omega)⟩ dL_law_286) (fun z32 S H locs I h => ?_)
          refine lv_pop F.1 F.2.1 dL_law_289 rfl ?_
          refine lv_aload_n F.1 F.2.1 dL_law_290 rfl (lv_at hl 2 rfl) ?_
          refine lv_aload_n F.1 F.2.1 dL_law_291 rfl (lv_at hl 0 rfl) ?_
          refine lv_iload_n F.1 F.2.1 dL_law_292 rfl (lv_at hl 3 rfl) ?_
          refine lv_iconst (v := 1) F.1 F.2.1 dL_law_293 (by decide) ?_
          refine r_iadd F dL_law_294 h (fun z33 h => ?_)
          obtain ⟨hin, h⟩ := h
          refine va_sld F.1 F.2.1 hX hbl hbA I.S hin dL_law_295 ?_
          obtain ⟨z34, e_z34⟩ : ∃ q, q = xs (Int32.toNatClampNeg z33) := ⟨_, rfl⟩
          rw [← e_z34] at h ⊢
          refine lv_aload_n F.1 F.2.1 dL_law_296 rfl (lv_at hl 0 rfl) ?_
          refine lv_iload_n F.1 F.2.1 dL_law_297 rfl (lv_at hl 3 rfl) ?_
          refine lv_iconst (v := 2) F.1 F.2.1 dL_law_298 (by decide) ?_
          refine r_iadd F dL_law_299 h (fun z35 h => ?_)
          obtain ⟨hin, h⟩ := h
          refine va_sld F.1 F.2.1 hX hbl hbA I.S hin dL_law_300 ?_
          obtain ⟨z36, e_z36⟩ : ∃ q, q = xs (Int32.toNatClampNeg z35) := ⟨_, rfl⟩
          rw [← e_z36] at h ⊢
          refine g_I I (run_V (As := [.int z34, .int z36]) (rest := []) F I hr_x2 hk_x2 (by decide) kL_22 (ctX8_told hr_x2 hk_x2 h) ⟨rfl, rfl⟩ ⟨Nat.le_of_ble_eq_true rfl, Nat.le_of_ble_eq_true rfl⟩ rfl hl.1 rfl (Nat.le_of_ble_eq_true rfl) ⟨(by show cells + 0 + 0 ≤ 600000; omega), (by show slots + 0 + 0 ≤ 7302250; omega)⟩ dL_law_301) (fun z37 S H locs I h => ?_)
          refine lv_pop F.1 F.2.1 dL_law_304 rfl ?_
          refine lv_goto (tgt := 1425) F.1 F.2.1 dL_law_305 (by decide) ?_
          refine W.widen (k := cells + 2) (n := slots + 99) (by omega) (by omega) ?_
          exact hj_1425 M ln S _ _ _ x1 x2 x3 hN hr_x1 hk_x1 hr_x2 hk_x2 h I (lv_sub hl [0, 1, 2, 3] rfl)
        · rw [if_neg c1] at h
          by_cases c2 : z5 = (2 : Int32)
          · rw [if_pos c2] at h
            refine lv_tableIn (off := 275) (tgt := 308) F.1 F.2.1 dL_law_33 (by rw [c2]; decide) (by rw [c2]; decide) (by rw [c2]; rfl) (by decide) ?_
            refine lv_aload_n F.1 F.2.1 dL_law_308 rfl (lv_at hl 1 rfl) ?_
            refine lv_aload_n F.1 F.2.1 dL_law_309 rfl (lv_at hl 0 rfl) ?_
            refine lv_iload_n F.1 F.2.1 dL_law_310 rfl (lv_at hl 3 rfl) ?_
            refine lv_iconst (v := 1) F.1 F.2.1 dL_law_311 (by decide) ?_
            refine r_iadd F dL_law_312 h (fun z38 h => ?_)
            obtain ⟨hin, h⟩ := h
            refine va_sld F.1 F.2.1 hX hbl hbA I.S hin dL_law_313 ?_
            obtain ⟨z39, e_z39⟩ : ∃ q, q = xs (Int32.toNatClampNeg z38) := ⟨_, rfl⟩
            rw [← e_z39] at h ⊢
            refine lv_aload_n F.1 F.2.1 dL_law_314 rfl (lv_at hl 0 rfl) ?_
            refine lv_iload_n F.1 F.2.1 dL_law_315 rfl (lv_at hl 3 rfl) ?_
            refine lv_iconst (v := 2) F.1 F.2.1 dL_law_316 (by decide) ?_
            refine r_iadd F dL_law_317 h (fun z40 h => ?_)
            obtain ⟨hin, h⟩ := h
            refine va_sld F.1 F.2.1 hX hbl hbA I.S hin dL_law_318 ?_
            obtain ⟨z41, e_z41⟩ : ∃ q, q = xs (Int32.toNatClampNeg z40) := ⟨_, rfl⟩
            rw [← e_z41] at h ⊢
            refine g_I I (run_V (As := [.int z39, .int z41]) (rest := []) F I hr_x1 hk_x1 (by decide) kL_23 (ctX7_bears hr_x1 hk_x1 h) ⟨rfl, rfl⟩ ⟨Nat.le_of_ble_eq_true rfl, Nat.le_of_ble_eq_true rfl⟩ rfl hl.1 rfl (Nat.le_of_ble_eq_true rfl) ⟨(by show cells + 0 + 0 ≤ 600000; omega), (by show slots + 0 + 0 ≤ 7302250; omega)⟩ dL_law_319) (fun z42 S H locs I h => ?_)
            refine lv_pop F.1 F.2.1 dL_law_322 rfl ?_
            refine lv_aload_n F.1 F.2.1 dL_law_323 rfl (lv_at hl 2 rfl) ?_
            refine lv_aload_n F.1 F.2.1 dL_law_324 rfl (lv_at hl 0 rfl) ?_
            refine lv_iload_n F.1 F.2.1 dL_law_325 rfl (lv_at hl 3 rfl) ?_
            refine lv_iconst (v := 1) F.1 F.2.1 dL_law_326 (by decide) ?_
            refine r_iadd F dL_law_327 h (fun z43 h => ?_)
            obtain ⟨hin, h⟩ := h
            refine va_sld F.1 F.2.1 hX hbl hbA I.S hin dL_law_328 ?_
            obtain ⟨z44, e_z44⟩ : ∃ q, q = xs (Int32.toNatClampNeg z43) := ⟨_, rfl⟩
            rw [← e_z44] at h ⊢
            refine lv_aload_n F.1 F.2.1 dL_law_329 rfl (lv_at hl 0 rfl) ?_
            refine lv_iload_n F.1 F.2.1 dL_law_330 rfl (lv_at hl 3 rfl) ?_
            refine lv_iconst (v := 2) F.1 F.2.1 dL_law_331 (by decide) ?_
            refine r_iadd F dL_law_332 h (fun z45 h => ?_)
            obtain ⟨hin, h⟩ := h
            refine va_sld F.1 F.2.1 hX hbl hbA I.S hin dL_law_333 ?_
            obtain ⟨z46, e_z46⟩ : ∃ q, q = xs (Int32.toNatClampNeg z45) := ⟨_, rfl⟩
            rw [← e_z46] at h ⊢
            refine g_I I (run_V (As := [.int z44, .int z46]) (rest := []) F I hr_x2 hk_x2 (by decide) kL_26 (ctX8_bears hr_x2 hk_x2 h) ⟨rfl, rfl⟩ ⟨Nat.le_of_ble_eq_true rfl, Nat.le_of_ble_eq_true rfl⟩ rfl hl.1 rfl (Nat.le_of_ble_eq_true rfl) ⟨(by show cells + 0 + 0 ≤ 600000; omega), (by show slots + 0 + 0 ≤ 7302250; omega)⟩ dL_law_334) (fun z47 S H locs I h => ?_)
            refine lv_pop F.1 F.2.1 dL_law_337 rfl ?_
            refine lv_goto (tgt := 1425) F.1 F.2.1 dL_law_338 (by decide) ?_
            refine W.widen (k := cells + 2) (n := slots + 99) (by omega) (by omega) ?_
            exact hj_1425 M ln S _ _ _ x1 x2 x3 hN hr_x1 hk_x1 hr_x2 hk_x2 h I (lv_sub hl [0, 1, 2, 3] rfl)
          · rw [if_neg c2] at h
            by_cases c3 : z5 = (3 : Int32)
            · rw [if_pos c3] at h
              refine lv_tableIn (off := 308) (tgt := 341) F.1 F.2.1 dL_law_33 (by rw [c3]; decide) (by rw [c3]; decide) (by rw [c3]; rfl) (by decide) ?_
              refine lv_aload_n F.1 F.2.1 dL_law_341 rfl (lv_at hl 1 rfl) ?_
              refine lv_aload_n F.1 F.2.1 dL_law_342 rfl (lv_at hl 0 rfl) ?_
              refine lv_iload_n F.1 F.2.1 dL_law_343 rfl (lv_at hl 3 rfl) ?_
              refine lv_iconst (v := 1) F.1 F.2.1 dL_law_344 (by decide) ?_
              refine r_iadd F dL_law_345 h (fun z48 h => ?_)
              obtain ⟨hin, h⟩ := h
              refine va_sld F.1 F.2.1 hX hbl hbA I.S hin dL_law_346 ?_
              obtain ⟨z49, e_z49⟩ : ∃ q, q = xs (Int32.toNatClampNeg z48) := ⟨_, rfl⟩
              rw [← e_z49] at h ⊢
              refine lv_aload_n F.1 F.2.1 dL_law_347 rfl (lv_at hl 0 rfl) ?_
              refine lv_iload_n F.1 F.2.1 dL_law_348 rfl (lv_at hl 3 rfl) ?_
              refine lv_iconst (v := 2) F.1 F.2.1 dL_law_349 (by decide) ?_
              refine r_iadd F dL_law_350 h (fun z50 h => ?_)
              obtain ⟨hin, h⟩ := h
              refine va_sld F.1 F.2.1 hX hbl hbA I.S hin dL_law_351 ?_
              obtain ⟨z51, e_z51⟩ : ∃ q, q = xs (Int32.toNatClampNeg z50) := ⟨_, rfl⟩
              rw [← e_z51] at h ⊢
              refine g_I I (run_V (As := [.int z49, .int z51]) (rest := []) F I hr_x1 hk_x1 (by decide) kL_27 (ctX7_as hr_x1 hk_x1 h) ⟨rfl, rfl⟩ ⟨Nat.le_of_ble_eq_true rfl, Nat.le_of_ble_eq_true rfl⟩ rfl hl.1 rfl (Nat.le_of_ble_eq_true rfl) ⟨(by show cells + 0 + 0 ≤ 600000; omega), (by show slots + 0 + 0 ≤ 7302250; omega)⟩ dL_law_352) (fun z52 S H locs I h => ?_)
              refine lv_pop F.1 F.2.1 dL_law_355 rfl ?_
              refine lv_aload_n F.1 F.2.1 dL_law_356 rfl (lv_at hl 2 rfl) ?_
              refine lv_aload_n F.1 F.2.1 dL_law_357 rfl (lv_at hl 0 rfl) ?_
              refine lv_iload_n F.1 F.2.1 dL_law_358 rfl (lv_at hl 3 rfl) ?_
              refine lv_iconst (v := 1) F.1 F.2.1 dL_law_359 (by decide) ?_
              refine r_iadd F dL_law_360 h (fun z53 h => ?_)
              obtain ⟨hin, h⟩ := h
              refine va_sld F.1 F.2.1 hX hbl hbA I.S hin dL_law_361 ?_
              obtain ⟨z54, e_z54⟩ : ∃ q, q = xs (Int32.toNatClampNeg z53) := ⟨_, rfl⟩
              rw [← e_z54] at h ⊢
              refine lv_aload_n F.1 F.2.1 dL_law_362 rfl (lv_at hl 0 rfl) ?_
              refine lv_iload_n F.1 F.2.1 dL_law_363 rfl (lv_at hl 3 rfl) ?_
              refine lv_iconst (v := 2) F.1 F.2.1 dL_law_364 (by decide) ?_
              refine r_iadd F dL_law_365 h (fun z55 h => ?_)
              obtain ⟨hin, h⟩ := h
              refine va_sld F.1 F.2.1 hX hbl hbA I.S hin dL_law_366 ?_
              obtain ⟨z56, e_z56⟩ : ∃ q, q = xs (Int32.toNatClampNeg z55) := ⟨_, rfl⟩
              rw [← e_z56] at h ⊢
              refine g_I I (run_V (As := [.int z54, .int z56]) (rest := []) F I hr_x2 hk_x2 (by decide) kL_30 (ctX8_as hr_x2 hk_x2 h) ⟨rfl, rfl⟩ ⟨Nat.le_of_ble_eq_true rfl, Nat.le_of_ble_eq_true rfl⟩ rfl hl.1 rfl (Nat.le_of_ble_eq_true rfl) ⟨(by show cells + 0 + 0 ≤ 600000; omega), (by show slots + 0 + 0 ≤ 7302250; omega)⟩ dL_law_367) (fun z57 S H locs I h => ?_)
              refine lv_pop F.1 F.2.1 dL_law_370 rfl ?_
              refine lv_goto (tgt := 1425) F.1 F.2.1 dL_law_371 (by decide) ?_
              refine W.widen (k := cells + 2) (n := slots + 99) (by omega) (by omega) ?_
              exact hj_1425 M ln S _ _ _ x1 x2 x3 hN hr_x1 hk_x1 hr_x2 hk_x2 h I (lv_sub hl [0, 1, 2, 3] rfl)
            · rw [if_neg c3] at h
              by_cases c4 : z5 = (4 : Int32)
              · rw [if_pos c4] at h
                refine lv_tableIn (off := 341) (tgt := 374) F.1 F.2.1 dL_law_33 (by rw [c4]; decide) (by rw [c4]; decide) (by rw [c4]; rfl) (by decide) ?_
                refine lv_aload_n F.1 F.2.1 dL_law_374 rfl (lv_at hl 1 rfl) ?_
                refine lv_aload_n F.1 F.2.1 dL_law_375 rfl (lv_at hl 0 rfl) ?_
                refine lv_iload_n F.1 F.2.1 dL_law_376 rfl (lv_at hl 3 rfl) ?_
                refine lv_iconst (v := 1) F.1 F.2.1 dL_law_377 (by decide) ?_
                refine r_iadd F dL_law_378 h (fun z58 h => ?_)
                obtain ⟨hin, h⟩ := h
                refine va_sld F.1 F.2.1 hX hbl hbA I.S hin dL_law_379 ?_
                obtain ⟨z59, e_z59⟩ : ∃ q, q = xs (Int32.toNatClampNeg z58) := ⟨_, rfl⟩
                rw [← e_z59] at h ⊢
                refine lv_aload_n F.1 F.2.1 dL_law_380 rfl (lv_at hl 0 rfl) ?_
                refine lv_iload_n F.1 F.2.1 dL_law_381 rfl (lv_at hl 3 rfl) ?_
                refine lv_iconst (v := 2) F.1 F.2.1 dL_law_382 (by decide) ?_
                refine r_iadd F dL_law_383 h (fun z60 h => ?_)
                obtain ⟨hin, h⟩ := h
                refine va_sld F.1 F.2.1 hX hbl hbA I.S hin dL_law_384 ?_
                obtain ⟨z61, e_z61⟩ : ∃ q, q = xs (Int32.toNatClampNeg z60) := ⟨_, rfl⟩
                rw [← e_z61] at h ⊢
                refine g_I I (run_V (As := [.int z59, .int z61]) (rest := []) F I hr_x1 hk_x1 (by decide) kL_31 (ctX7_turns hr_x1 hk_x1 h) ⟨rfl, rfl⟩ ⟨Nat.le_of_ble_eq_true rfl, Nat.le_of_ble_eq_true rfl⟩ rfl hl.1 rfl (Nat.le_of_ble_eq_true rfl) ⟨(by show cells + 0 + 0 ≤ 600000; omega), (by show slots + 0 + 0 ≤ 7302250; omega)⟩ dL_law_385) (fun z62 S H locs I h => ?_)
                refine lv_pop F.1 F.2.1 dL_law_388 rfl ?_
                refine lv_aload_n F.1 F.2.1 dL_law_389 rfl (lv_at hl 2 rfl) ?_
                refine lv_aload_n F.1 F.2.1 dL_law_390 rfl (lv_at hl 0 rfl) ?_
                refine lv_iload_n F.1 F.2.1 dL_law_391 rfl (lv_at hl 3 rfl) ?_
                refine lv_iconst (v := 1) F.1 F.2.1 dL_law_392 (by decide) ?_
                refine r_iadd F dL_law_393 h (fun z63 h => ?_)
                obtain ⟨hin, h⟩ := h
                refine va_sld F.1 F.2.1 hX hbl hbA I.S hin dL_law_394 ?_
                obtain ⟨z64, e_z64⟩ : ∃ q, q = xs (Int32.toNatClampNeg z63) := ⟨_, rfl⟩
                rw [← e_z64] at h ⊢
                refine lv_aload_n F.1 F.2.1 dL_law_395 rfl (lv_at hl 0 rfl) ?_
                refine lv_iload_n F.1 F.2.1 dL_law_396 rfl (lv_at hl 3 rfl) ?_
                refine lv_iconst (v := 2) F.1 F.2.1 dL_law_397 (by decide) ?_
                refine r_iadd F dL_law_398 h (fun z65 h => ?_)
                obtain ⟨hin, h⟩ := h
                refine va_sld F.1 F.2.1 hX hbl hbA I.S hin dL_law_399 ?_
                obtain ⟨z66, e_z66⟩ : ∃ q, q = xs (Int32.toNatClampNeg z65) := ⟨_, rfl⟩
                rw [← e_z66] at h ⊢
                refine g_I I (run_V (As := [.int z64, .int z66]) (rest := []) F I hr_x2 hk_x2 (by decide) kL_34 (ctX8_turns hr_x2 hk_x2 h) ⟨rfl, rfl⟩ ⟨Nat.le_of_ble_eq_true rfl, Nat.le_of_ble_eq_true rfl⟩ rfl hl.1 rfl (Nat.le_of_ble_eq_true rfl) ⟨(by show cells + 0 + 0 ≤ 600000; omega), (by show slots + 0 + 0 ≤ 7302250; omega)⟩ dL_law_400) (fun z67 S H locs I h => ?_)
                refine lv_pop F.1 F.2.1 dL_law_403 rfl ?_
                refine lv_goto (tgt := 1425) F.1 F.2.1 dL_law_404 (by decide) ?_
                refine W.widen (k := cells + 2) (n := slots + 99) (by omega) (by omega) ?_
                exact hj_1425 M ln S _ _ _ x1 x2 x3 hN hr_x1 hk_x1 hr_x2 hk_x2 h I (lv_sub hl [0, 1, 2, 3] rfl)
              · rw [if_neg c4] at h
                by_cases c5 : z5 = (5 : Int32)
                · rw [if_pos c5] at h
                  refine lv_tableIn (off := 374) (tgt := 407) F.1 F.2.1 dL_law_33 (by rw [c5]; decide) (by rw [c5]; decide) (by rw [c5]; rfl) (by decide) ?_
                  refine lv_aload_n F.1 F.2.1 dL_law_407 rfl (lv_at hl 1 rfl) ?_
                  refine lv_aload_n F.1 F.2.1 dL_law_408 rfl (lv_at hl 0 rfl) ?_
                  refine lv_iload_n F.1 F.2.1 dL_law_409 rfl (lv_at hl 3 rfl) ?_
                  refine lv_iconst (v := 1) F.1 F.2.1 dL_law_410 (by decide) ?_
                  refine r_iadd F dL_law_411 h (fun z68 h => ?_)
                  obtain ⟨hin, h⟩ := h
                  refine va_sld F.1 F.2.1 hX hbl hbA I.S hin dL_law_412 ?_
                  obtain ⟨z69, e_z69⟩ : ∃ q, q = xs (Int32.toNatClampNeg z68) := ⟨_, rfl⟩
                  rw [← e_z69] at h ⊢
                  refine lv_aload_n F.1 F.2.1 dL_law_413 rfl (lv_at hl 0 rfl) ?_
                  refine lv_iload_n F.1 F.2.1 dL_law_414 rfl (lv_at hl 3 rfl) ?_
                  refine lv_iconst (v := 2) F.1 F.2.1 dL_law_415 (by decide) ?_
                  refine r_iadd F dL_law_416 h (fun z70 h => ?_)
                  obtain ⟨hin, h⟩ := h
                  refine va_sld F.1 F.2.1 hX hbl hbA I.S hin dL_law_417 ?_
                  obtain ⟨z71, e_z71⟩ : ∃ q, q = xs (Int32.toNatClampNeg z70) := ⟨_, rfl⟩
                  rw [← e_z71] at h ⊢
                  refine lv_aload_n F.1 F.2.1 dL_law_418 rfl (lv_at hl 0 rfl) ?_
                  refine lv_iload_n F.1 F.2.1 dL_law_419 rfl (lv_at hl 3 rfl) ?_
                  refine lv_iconst (v := 3) F.1 F.2.1 dL_law_420 (by decide) ?_
                  refine r_iadd F dL_law_421 h (fun z72 h => ?_)
                  obtain ⟨hin, h⟩ := h
                  refine va_sld F.1 F.2.1 hX hbl hbA I.S hin dL_law_422 ?_
                  obtain ⟨z73, e_z73⟩ : ∃ q, q = xs (Int32.toNatClampNeg z72) := ⟨_, rfl⟩
                  rw [← e_z73] at h ⊢
                  refine g_I I (run_V (As := [.int z69, .int z71, .int z73]) (rest := []) F I hr_x1 hk_x1 (by decide) kL_35 (ctX7_set hr_x1 hk_x1 h) ⟨rfl, rfl⟩ ⟨Nat.le_of_ble_eq_true rfl, Nat.le_of_ble_eq_true rfl⟩ rfl hl.1 rfl (Nat.le_of_ble_eq_true rfl) ⟨(by show cells + 0 + 0 ≤ 600000; omega), (by show slots + 0 + 0 ≤ 7302250; omega)⟩ dL_law_423) (fun z74 S H locs I h => ?_)
                  refine lv_pop F.1 F.2.1 dL_law_426 rfl ?_
                  refine lv_aload_n F.1 F.2.1 dL_law_427 rfl (lv_at hl 2 rfl) ?_
                  refine lv_aload_n F.1 F.2.1 dL_law_428 rfl (lv_at hl 0 rfl) ?_
                  refine lv_iload_n F.1 F.2.1 dL_law_429 rfl (lv_at hl 3 rfl) ?_
                  refine lv_iconst (v := 1) F.1 F.2.1 dL_law_430 (by decide) ?_
                  refine r_iadd F dL_law_431 h (fun z75 h => ?_)
                  obtain ⟨hin, h⟩ := h
                  refine va_sld F.1 F.2.1 hX hbl hbA I.S hin dL_law_432 ?_
                  obtain ⟨z76, e_z76⟩ : ∃ q, q = xs (Int32.toNatClampNeg z75) := ⟨_, rfl⟩
                  rw [← e_z76] at h ⊢
                  refine lv_aload_n F.1 F.2.1 dL_law_433 rfl (lv_at hl 0 rfl) ?_
                  refine lv_iload_n F.1 F.2.1 dL_law_434 rfl (lv_at hl 3 rfl) ?_
                  refine lv_iconst (v := 2) F.1 F.2.1 dL_law_435 (by decide) ?_
                  refine r_iadd F dL_law_436 h (fun z77 h => ?_)
                  obtain ⟨hin, h⟩ := h
                  refine va_sld F.1 F.2.1 hX hbl hbA I.S hin dL_law_437 ?_
                  obtain ⟨z78, e_z78⟩ : ∃ q, q = xs (Int32.toNatClampNeg z77) := ⟨_, rfl⟩
                  rw [← e_z78] at h ⊢
                  refine lv_aload_n F.1 F.2.1 dL_law_438 rfl (lv_at hl 0 rfl) ?_
                  refine lv_iload_n F.1 F.2.1 dL_law_439 rfl (lv_at hl 3 rfl) ?_
                  refine lv_iconst (v := 3) F.1 F.2.1 dL_law_440 (by decide) ?_
                  refine r_iadd F dL_law_441 h (fun z79 h => ?_)
                  obtain ⟨hin, h⟩ := h
                  refine va_sld F.1 F.2.1 hX hbl hbA I.S hin dL_law_442 ?_
                  obtain ⟨z80, e_z80⟩ : ∃ q, q = xs (Int32.toNatClampNeg z79) := ⟨_, rfl⟩
                  rw [← e_z80] at h ⊢
                  refine g_I I (run_V (As := [.int z76, .int z78, .int z80]) (rest := []) F I hr_x2 hk_x2 (by decide) kL_39 (ctX8_set hr_x2 hk_x2 h) ⟨rfl, rfl⟩ ⟨Nat.le_of_ble_eq_true rfl, Nat.le_of_ble_eq_true rfl⟩ rfl hl.1 rfl (Nat.le_of_ble_eq_true rfl) ⟨(by show cells + 0 + 0 ≤ 600000; omega), (by show slots + 0 + 0 ≤ 7302250; omega)⟩ dL_law_443) (fun z81 S H locs I h => ?_)
                  refine lv_pop F.1 F.2.1 dL_law_446 rfl ?_
                  refine lv_goto (tgt := 1425) F.1 F.2.1 dL_law_447 (by decide) ?_
                  refine W.widen (k := cells + 2) (n := slots + 99) (by omega) (by omega) ?_
                  exact hj_1425 M ln S _ _ _ x1 x2 x3 hN hr_x1 hk_x1 hr_x2 hk_x2 h I (lv_sub hl [0, 1, 2, 3] rfl)
                · rw [if_neg c5] at h
                  by_cases c6 : z5 = (6 : Int32)
                  · rw [if_pos c6] at h
                    refine lv_tableIn (off := 417) (tgt := 450) F.1 F.2.1 dL_law_33 (by rw [c6]; decide) (by rw [c6]; decide) (by rw [c6]; rfl) (by decide) ?_
                    refine lv_aload_n F.1 F.2.1 dL_law_450 rfl (lv_at hl 1 rfl) ?_
                    refine lv_aload_n F.1 F.2.1 dL_law_451 rfl (lv_at hl 0 rfl) ?_
                    refine lv_iload_n F.1 F.2.1 dL_law_452 rfl (lv_at hl 3 rfl) ?_
                    refine lv_iconst (v := 1) F.1 F.2.1 dL_law_453 (by decide) ?_
                    refine r_iadd F dL_law_454 h (fun z82 h => ?_)
                    obtain ⟨hin, h⟩ := h
                    refine va_sld F.1 F.2.1 hX hbl hbA I.S hin dL_law_455 ?_
                    obtain ⟨z83, e_z83⟩ : ∃ q, q = xs (Int32.toNatClampNeg z82) := ⟨_, rfl⟩
                    rw [← e_z83] at h ⊢
                    refine g_I I (run_V (As := [.int z83]) (rest := []) F I hr_x1 hk_x1 (by decide) kL_40 (ctX7_fertile hr_x1 hk_x1 h) ⟨rfl, rfl⟩ ⟨Nat.le_of_ble_eq_true rfl, Nat.le_of_ble_eq_true rfl⟩ rfl hl.1 rfl (Nat.le_of_ble_eq_true rfl) ⟨(by show cells + 0 + 0 ≤ 600000; omega), (by show slots + 0 + 0 ≤ 7302250; omega)⟩ dL_law_456) (fun z84 S H locs I h => ?_)
                    refine lv_pop F.1 F.2.1 dL_law_459 rfl ?_
                    refine lv_aload_n F.1 F.2.1 dL_law_460 rfl (lv_at hl 2 rfl) ?_
                    refine lv_aload_n F.1 F.2.1 dL_law_461 rfl (lv_at hl 0 rfl) ?_
                    refine lv_iload_n F.1 F.2.1 dL_law_462 rfl (lv_at hl 3 rfl) ?_
                    refine lv_iconst (v := 1) F.1 F.2.1 dL_law_463 (by decide) ?_
                    refine r_iadd F dL_law_464 h (fun z85 h => ?_)
                    obtain ⟨hin, h⟩ := h
                    refine va_sld F.1 F.2.1 hX hbl hbA I.S hin dL_law_465 ?_
                    obtain ⟨z86, e_z86⟩ : ∃ q, q = xs (Int32.toNatClampNeg z85) := ⟨_, rfl⟩
                    rw [← e_z86] at h ⊢
                    refine g_I I (run_V (As := [.int z86]) (rest := []) F I hr_x2 hk_x2 (by decide) kL_44 (ctX8_fertile hr_x2 hk_x2 h) ⟨rfl, rfl⟩ ⟨Nat.le_of_ble_eq_true rfl, Nat.le_of_ble_eq_true rfl⟩ rfl hl.1 rfl (Nat.le_of_ble_eq_true rfl) ⟨(by show cells + 0 + 0 ≤ 600000; omega), (by show slots + 0 + 0 ≤ 7302250; omega)⟩ dL_law_466) (fun z87 S H locs I h => ?_)
                    refine lv_pop F.1 F.2.1 dL_law_469 rfl ?_
                    refine lv_goto (tgt := 1425) F.1 F.2.1 dL_law_470 (by decide) ?_
                    refine W.widen (k := cells + 2) (n := slots + 99) (by omega) (by omega) ?_
                    exact hj_1425 M ln S _ _ _ x1 x2 x3 hN hr_x1 hk_x1 hr_x2 hk_x2 h I (lv_sub hl [0, 1, 2, 3] rfl)
                  · rw [if_neg c6] at h
                    by_cases c7 : z5 = (7 : Int32)
                    · rw [if_pos c7] at h
                      refine lv_tableIn (off := 440) (tgt := 473) F.1 F.2.1 dL_law_33 (by rw [c7]; decide) (by rw [c7]; decide) (by rw [c7]; rfl) (by decide) ?_
                      refine lv_aload_n F.1 F.2.1 dL_law_473 rfl (lv_at hl 1 rfl) ?_
                      refine lv_aload_n F.1 F.2.1 dL_law_474 rfl (lv_at hl 0 rfl) ?_
                      refine lv_iload_n F.1 F.2.1 dL_law_475 rfl (lv_at hl 3 rfl) ?_
                      refine lv_iconst (v := 1) F.1 F.2.1 dL_law_476 (by decide) ?_
                      refine r_iadd F dL_law_477 h (fun z88 h => ?_)
                      obtain ⟨hin, h⟩ := h
                      refine va_sld F.1 F.2.1 hX hbl hbA I.S hin dL_law_478 ?_
                      obtain ⟨z89, e_z89⟩ : ∃ q, q = xs (Int32.toNatClampNeg z88) := ⟨_, rfl⟩
                      rw [← e_z89] at h ⊢
                      refine g_I I (run_V (As := [.int z89]) (rest := []) F I hr_x1 hk_x1 (by decide) kL_45 (ctX7_deal hr_x1 hk_x1 h) ⟨rfl, rfl⟩ ⟨Nat.le_of_ble_eq_true rfl, Nat.le_of_ble_eq_true rfl⟩ rfl hl.1 rfl (Nat.le_of_ble_eq_true rfl) ⟨(by show cells + 0 + 0 ≤ 600000; omega), (by show slots + 0 + 0 ≤ 7302250; omega)⟩ dL_law_479) (fun z90 S H locs I h => ?_)
                      refine lv_pop F.1 F.2.1 dL_law_482 rfl ?_
                      refine lv_aload_n F.1 F.2.1 dL_law_483 rfl (lv_at hl 2 rfl) ?_
                      refine lv_aload_n F.1 F.2.1 dL_law_484 rfl (lv_at hl 0 rfl) ?_
                      refine lv_iload_n F.1 F.2.1 dL_law_485 rfl (lv_at hl 3 rfl) ?_
                      refine lv_iconst (v := 1) F.1 F.2.1 dL_law_486 (by decide) ?_
                      refine r_iadd F dL_law_487 h (fun z91 h => ?_)
                      obtain ⟨hin, h⟩ := h
                      refine va_sld F.1 F.2.1 hX hbl hbA I.S hin dL_law_488 ?_
                      obtain ⟨z92, e_z92⟩ : ∃ q, q = xs (Int32.toNatClampNeg z91) := ⟨_, rfl⟩
                      rw [← e_z92] at h ⊢
                      refine g_I I (run_V (As := [.int z92]) (rest := []) F I hr_x2 hk_x2 (by decide) kL_48 (ctX8_deal hr_x2 hk_x2 h) ⟨rfl, rfl⟩ ⟨Nat.le_of_ble_eq_true rfl, Nat.le_of_ble_eq_true rfl⟩ rfl hl.1 rfl (Nat.le_of_ble_eq_true rfl) ⟨(by show cells + 0 + 0 ≤ 600000; omega), (by show slots + 0 + 0 ≤ 7302250; omega)⟩ dL_law_489) (fun z93 S H locs I h => ?_)
                      refine lv_pop F.1 F.2.1 dL_law_492 rfl ?_
                      refine lv_goto (tgt := 1425) F.1 F.2.1 dL_law_493 (by decide) ?_
                      refine W.widen (k := cells + 2) (n := slots + 99) (by omega) (by omega) ?_
                      exact hj_1425 M ln S _ _ _ x1 x2 x3 hN hr_x1 hk_x1 hr_x2 hk_x2 h I (lv_sub hl [0, 1, 2, 3] rfl)
                    · rw [if_neg c7] at h
                      by_cases c8 : z5 = (8 : Int32)
                      · rw [if_pos c8] at h
                        refine lv_tableIn (off := 463) (tgt := 496) F.1 F.2.1 dL_law_33 (by rw [c8]; decide) (by rw [c8]; decide) (by rw [c8]; rfl) (by decide) ?_
                        refine lv_aload_n F.1 F.2.1 dL_law_496 rfl (lv_at hl 1 rfl) ?_
                        refine lv_aload_n F.1 F.2.1 dL_law_497 rfl (lv_at hl 0 rfl) ?_
                        refine lv_iload_n F.1 F.2.1 dL_law_498 rfl (lv_at hl 3 rfl) ?_
                        refine lv_iconst (v := 1) F.1 F.2.1 dL_law_499 (by decide) ?_
                        refine r_iadd F dL_law_500 h (fun z94 h => ?_)
                        obtain ⟨hin, h⟩ := h
                        refine va_sld F.1 F.2.1 hX hbl hbA I.S hin dL_law_501 ?_
                        obtain ⟨z95, e_z95⟩ : ∃ q, q = xs (Int32.toNatClampNeg z94) := ⟨_, rfl⟩
                        rw [← e_z95] at h ⊢
                        refine g_I I (run_V (As := [.int z95]) (rest := []) F I hr_x1 hk_x1 (by decide) kL_49 (ctX7_seed hr_x1 hk_x1 h) ⟨rfl, rfl⟩ ⟨Nat.le_of_ble_eq_true rfl, Nat.le_of_ble_eq_true rfl⟩ rfl hl.1 rfl (Nat.le_of_ble_eq_true rfl) ⟨(by show cells + 0 + 0 ≤ 600000; omega), (by show slots + 0 + 0 ≤ 7302250; omega)⟩ dL_law_502) (fun z96 S H locs I h => ?_)
                        refine lv_pop F.1 F.2.1 dL_law_505 rfl ?_
                        refine lv_aload_n F.1 F.2.1 dL_law_506 rfl (lv_at hl 2 rfl) ?_
                        refine lv_aload_n F.1 F.2.1 dL_law_507 rfl (lv_at hl 0 rfl) ?_
                        refine lv_iload_n F.1 F.2.1 dL_law_508 rfl (lv_at hl 3 rfl) ?_
                        refine lv_iconst (v := 1) F.1 F.2.1 dL_law_509 (by decide) ?_
                        refine r_iadd F dL_law_510 h (fun z97 h => ?_)
                        obtain ⟨hin, h⟩ := h
                        refine va_sld F.1 F.2.1 hX hbl hbA I.S hin dL_law_511 ?_
                        obtain ⟨z98, e_z98⟩ : ∃ q, q = xs (Int32.toNatClampNeg z97) := ⟨_, rfl⟩
                        rw [← e_z98] at h ⊢
                        refine g_I I (run_V (As := [.int z98]) (rest := []) F I hr_x2 hk_x2 (by decide) kL_52 (ctX8_seed hr_x2 hk_x2 h) ⟨rfl, rfl⟩ ⟨Nat.le_of_ble_eq_true rfl, Nat.le_of_ble_eq_true rfl⟩ rfl hl.1 rfl (Nat.le_of_ble_eq_true rfl) ⟨(by show cells + 0 + 0 ≤ 600000; omega), (by show slots + 0 + 0 ≤ 7302250; omega)⟩ dL_law_512) (fun z99 S H locs I h => ?_)
                        refine lv_pop F.1 F.2.1 dL_law_515 rfl ?_
                        refine lv_goto (tgt := 1425) F.1 F.2.1 dL_law_516 (by decide) ?_
                        refine W.widen (k := cells + 2) (n := slots + 99) (by omega) (by omega) ?_
                        exact hj_1425 M ln S _ _ _ x1 x2 x3 hN hr_x1 hk_x1 hr_x2 hk_x2 h I (lv_sub hl [0, 1, 2, 3] rfl)
                      · rw [if_neg c8] at h
                        by_cases c9 : z5 = (9 : Int32)
                        · rw [if_pos c9] at h
                          refine lv_tableIn (off := 486) (tgt := 519) F.1 F.2.1 dL_law_33 (by rw [c9]; decide) (by rw [c9]; decide) (by rw [c9]; rfl) (by decide) ?_
                          refine lv_aload_n F.1 F.2.1 dL_law_519 rfl (lv_at hl 1 rfl) ?_
                          refine lv_aload_n F.1 F.2.1 dL_law_520 rfl (lv_at hl 0 rfl) ?_
                          refine lv_iload_n F.1 F.2.1 dL_law_521 rfl (lv_at hl 3 rfl) ?_
                          refine lv_iconst (v := 1) F.1 F.2.1 dL_law_522 (by decide) ?_
                          refine r_iadd F dL_law_523 h (fun z100 h => ?_)
                          obtain ⟨hin, h⟩ := h
                          refine va_sld F.1 F.2.1 hX hbl hbA I.S hin dL_law_524 ?_
                          obtain ⟨z101, e_z101⟩ : ∃ q, q = xs (Int32.toNatClampNeg z100) := ⟨_, rfl⟩
                          rw [← e_z101] at h ⊢
                          refine g_I I (run_V (As := [.int z101]) (rest := []) F I hr_x1 hk_x1 (by decide) kL_53 (ctX7_years hr_x1 hk_x1 h) ⟨rfl, rfl⟩ ⟨Nat.le_of_ble_eq_true rfl, Nat.le_of_ble_eq_true rfl⟩ rfl hl.1 rfl (Nat.le_of_ble_eq_true rfl) ⟨(by show cells + 0 + 0 ≤ 600000; omega), (by show slots + 0 + 0 ≤ 7302250; omega)⟩ dL_law_525) (fun z102 S H locs I h => ?_)
                          refine lv_pop F.1 F.2.1 dL_law_528 rfl ?_
                          refine lv_aload_n F.1 F.2.1 dL_law_529 rfl (lv_at hl 2 rfl) ?_
                          refine lv_aload_n F.1 F.2.1 dL_law_530 rfl (lv_at hl 0 rfl) ?_
                          refine lv_iload_n F.1 F.2.1 dL_law_531 rfl (lv_at hl 3 rfl) ?_
                          refine lv_iconst (v := 1) F.1 F.2.1 dL_law_532 (by decide) ?_
                          refine r_iadd F dL_law_533 h (fun z103 h => ?_)
                          obtain ⟨hin, h⟩ := h
                          refine va_sld F.1 F.2.1 hX hbl hbA I.S hin dL_law_534 ?_
                          obtain ⟨z104, e_z104⟩ : ∃ q, q = xs (Int32.toNatClampNeg z103) := ⟨_, rfl⟩
                          rw [← e_z104] at h ⊢
                          refine g_I I (run_V (As := [.int z104]) (rest := []) F I hr_x2 hk_x2 (by decide) kL_56 (ctX8_years hr_x2 hk_x2 h) ⟨rfl, rfl⟩ ⟨Nat.le_of_ble_eq_true rfl, Nat.le_of_ble_eq_true rfl⟩ rfl hl.1 rfl (Nat.le_of_ble_eq_true rfl) ⟨(by show cells + 0 + 0 ≤ 600000; omega), (by show slots + 0 + 0 ≤ 7302250; omega)⟩ dL_law_535) (fun z105 S H locs I h => ?_)
                          refine lv_pop F.1 F.2.1 dL_law_538 rfl ?_
                          refine lv_goto (tgt := 1425) F.1 F.2.1 dL_law_539 (by decide) ?_
                          refine W.widen (k := cells + 2) (n := slots + 99) (by omega) (by omega) ?_
                          exact hj_1425 M ln S _ _ _ x1 x2 x3 hN hr_x1 hk_x1 hr_x2 hk_x2 h I (lv_sub hl [0, 1, 2, 3] rfl)
                        · rw [if_neg c9] at h
                          by_cases c10 : z5 = (10 : Int32)
                          · rw [if_pos c10] at h
                            refine lv_tableIn (off := 509) (tgt := 542) F.1 F.2.1 dL_law_33 (by rw [c10]; decide) (by rw [c10]; decide) (by rw [c10]; rfl) (by decide) ?_
                            refine lv_aload_n F.1 F.2.1 dL_law_542 rfl (lv_at hl 1 rfl) ?_
                            refine lv_aload_n F.1 F.2.1 dL_law_543 rfl (lv_at hl 0 rfl) ?_
                            refine lv_iload_n F.1 F.2.1 dL_law_544 rfl (lv_at hl 3 rfl) ?_
                            refine lv_iconst (v := 1) F.1 F.2.1 dL_law_545 (by decide) ?_
                            refine r_iadd F dL_law_546 h (fun z106 h => ?_)
                            obtain ⟨hin, h⟩ := h
                            refine va_sld F.1 F.2.1 hX hbl hbA I.S hin dL_law_547 ?_
                            obtain ⟨z107, e_z107⟩ : ∃ q, q = xs (Int32.toNatClampNeg z106) := ⟨_, rfl⟩
                            rw [← e_z107] at h ⊢
                            refine lv_aload_n F.1 F.2.1 dL_law_548 rfl (lv_at hl 0 rfl) ?_
                            refine lv_iload_n F.1 F.2.1 dL_law_549 rfl (lv_at hl 3 rfl) ?_
                            refine lv_iconst (v := 2) F.1 F.2.1 dL_law_550 (by decide) ?_
                            refine r_iadd F dL_law_551 h (fun z108 h => ?_)
                            obtain ⟨hin, h⟩ := h
                            refine va_sld F.1 F.2.1 hX hbl hbA I.S hin dL_law_552 ?_
                            obtain ⟨z109, e_z109⟩ : ∃ q, q = xs (Int32.toNatClampNeg z108) := ⟨_, rfl⟩
                            rw [← e_z109] at h ⊢
                            refine g_I I (run_V (As := [.int z107, .int z109]) (rest := []) F I hr_x1 hk_x1 (by decide) kL_57 (ctX7_alike hr_x1 hk_x1 h) ⟨rfl, rfl⟩ ⟨Nat.le_of_ble_eq_true rfl, Nat.le_of_ble_eq_true rfl⟩ rfl hl.1 rfl (Nat.le_of_ble_eq_true rfl) ⟨(by show cells + 0 + 0 ≤ 600000; omega), (by show slots + 0 + 0 ≤ 7302250; omega)⟩ dL_law_553) (fun z110 S H locs I h => ?_)
                            refine lv_pop F.1 F.2.1 dL_law_556 rfl ?_
                            refine lv_aload_n F.1 F.2.1 dL_law_557 rfl (lv_at hl 2 rfl) ?_
                            refine lv_aload_n F.1 F.2.1 dL_law_558 rfl (lv_at hl 0 rfl) ?_
                            refine lv_iload_n F.1 F.2.1 dL_law_559 rfl (lv_at hl 3 rfl) ?_
                            refine lv_iconst (v := 1) F.1 F.2.1 dL_law_560 (by decide) ?_
                            refine r_iadd F dL_law_561 h (fun z111 h => ?_)
                            obtain ⟨hin, h⟩ := h
                            refine va_sld F.1 F.2.1 hX hbl hbA I.S hin dL_law_562 ?_
                            obtain ⟨z112, e_z112⟩ : ∃ q, q = xs (Int32.toNatClampNeg z111) := ⟨_, rfl⟩
                            rw [← e_z112] at h ⊢
                            refine lv_aload_n F.1 F.2.1 dL_law_563 rfl (lv_at hl 0 rfl) ?_
                            refine lv_iload_n F.1 F.2.1 dL_law_564 rfl (lv_at hl 3 rfl) ?_
                            refine lv_iconst (v := 2) F.1 F.2.1 dL_law_565 (by decide) ?_
                            refine r_iadd F dL_law_566 h (fun z113 h => ?_)
                            obtain ⟨hin, h⟩ := h
                            refine va_sld F.1 F.2.1 hX hbl hbA I.S hin dL_law_567 ?_
                            obtain ⟨z114, e_z114⟩ : ∃ q, q = xs (Int32.toNatClampNeg z113) := ⟨_, rfl⟩
                            rw [← e_z114] at h ⊢
                            refine g_I I (run_V (As := [.int z112, .int z114]) (rest := []) F I hr_x2 hk_x2 (by decide) kL_60 (ctX8_alike hr_x2 hk_x2 h) ⟨rfl, rfl⟩ ⟨Nat.le_of_ble_eq_true rfl, Nat.le_of_ble_eq_true rfl⟩ rfl hl.1 rfl (Nat.le_of_ble_eq_true rfl) ⟨(by show cells + 0 + 0 ≤ 600000; omega), (by show slots + 0 + 0 ≤ 7302250; omega)⟩ dL_law_568) (fun z115 S H locs I h => ?_)
                            refine lv_pop F.1 F.2.1 dL_law_571 rfl ?_
                            refine lv_goto (tgt := 1425) F.1 F.2.1 dL_law_572 (by decide) ?_
                            refine W.widen (k := cells + 2) (n := slots + 99) (by omega) (by omega) ?_
                            exact hj_1425 M ln S _ _ _ x1 x2 x3 hN hr_x1 hk_x1 hr_x2 hk_x2 h I (lv_sub hl [0, 1, 2, 3] rfl)
                          · rw [if_neg c10] at h
                            by_cases c11 : z5 = (11 : Int32)
                            · rw [if_pos c11] at h
                              refine lv_tableIn (off := 542) (tgt := 575) F.1 F.2.1 dL_law_33 (by rw [c11]; decide) (by rw [c11]; decide) (by rw [c11]; rfl) (by decide) ?_
                              refine lv_aload_n F.1 F.2.1 dL_law_575 rfl (lv_at hl 1 rfl) ?_
                              refine lv_aload_n F.1 F.2.1 dL_law_576 rfl (lv_at hl 0 rfl) ?_
                              refine lv_iload_n F.1 F.2.1 dL_law_577 rfl (lv_at hl 3 rfl) ?_
                              refine lv_iconst (v := 1) F.1 F.2.1 dL_law_578 (by decide) ?_
                              refine r_iadd F dL_law_579 h (fun z116 h => ?_)
                              obtain ⟨hin, h⟩ := h
                              refine va_sld F.1 F.2.1 hX hbl hbA I.S hin dL_law_580 ?_
                              obtain ⟨z117, e_z117⟩ : ∃ q, q = xs (Int32.toNatClampNeg z116) := ⟨_, rfl⟩
                              rw [← e_z117] at h ⊢
                              refine g_I I (run_V (As := [.int z117]) (rest := []) F I hr_x1 hk_x1 (by decide) kL_61 (ctX7_land hr_x1 hk_x1 h) ⟨rfl, rfl⟩ ⟨Nat.le_of_ble_eq_true rfl, Nat.le_of_ble_eq_true rfl⟩ rfl hl.1 rfl (Nat.le_of_ble_eq_true rfl) ⟨(by show cells + 0 + 0 ≤ 600000; omega), (by show slots + 0 + 0 ≤ 7302250; omega)⟩ dL_law_581) (fun z118 S H locs I h => ?_)
                              refine lv_pop F.1 F.2.1 dL_law_584 rfl ?_
                              refine lv_aload_n F.1 F.2.1 dL_law_585 rfl (lv_at hl 2 rfl) ?_
                              refine lv_aload_n F.1 F.2.1 dL_law_586 rfl (lv_at hl 0 rfl) ?_
                              refine lv_iload_n F.1 F.2.1 dL_law_587 rfl (lv_at hl 3 rfl) ?_
                              refine lv_iconst (v := 1) F.1 F.2.1 dL_law_588 (by decide) ?_
                              refine r_iadd F dL_law_589 h (fun z119 h => ?_)
                              obtain ⟨hin, h⟩ := h
                              refine va_sld F.1 F.2.1 hX hbl hbA I.S hin dL_law_590 ?_
                              obtain ⟨z120, e_z120⟩ : ∃ q, q = xs (Int32.toNatClampNeg z119) := ⟨_, rfl⟩
                              rw [← e_z120] at h ⊢
                              refine g_I I (run_V (As := [.int z120]) (rest := []) F I hr_x2 hk_x2 (by decide) kL_64 (ctX8_land hr_x2 hk_x2 h) ⟨rfl, rfl⟩ ⟨Nat.le_of_ble_eq_true rfl, Nat.le_of_ble_eq_true rfl⟩ rfl hl.1 rfl (Nat.le_of_ble_eq_true rfl) ⟨(by show cells + 0 + 0 ≤ 600000; omega), (by show slots + 0 + 0 ≤ 7302250; omega)⟩ dL_law_591) (fun z121 S H locs I h => ?_)
                              refine lv_pop F.1 F.2.1 dL_law_594 rfl ?_
                              refine lv_goto (tgt := 1425) F.1 F.2.1 dL_law_595 (by decide) ?_
                              refine W.widen (k := cells + 2) (n := slots + 99) (by omega) (by omega) ?_
                              exact hj_1425 M ln S _ _ _ x1 x2 x3 hN hr_x1 hk_x1 hr_x2 hk_x2 h I (lv_sub hl [0, 1, 2, 3] rfl)
                            · rw [if_neg c11] at h
                              by_cases c12 : z5 = (12 : Int32)
                              · rw [if_pos c12] at h
                                refine lv_tableIn (off := 565) (tgt := 598) F.1 F.2.1 dL_law_33 (by rw [c12]; decide) (by rw [c12]; decide) (by rw [c12]; rfl) (by decide) ?_
                                refine lv_aload_n F.1 F.2.1 dL_law_598 rfl (lv_at hl 1 rfl) ?_
                                refine lv_aload_n F.1 F.2.1 dL_law_599 rfl (lv_at hl 0 rfl) ?_
                                refine lv_iload_n F.1 F.2.1 dL_law_600 rfl (lv_at hl 3 rfl) ?_
                                refine lv_iconst (v := 1) F.1 F.2.1 dL_law_601 (by decide) ?_
                                refine r_iadd F dL_law_602 h (fun z122 h => ?_)
                                obtain ⟨hin, h⟩ := h
                                refine va_sld F.1 F.2.1 hX hbl hbA I.S hin dL_law_603 ?_
                                obtain ⟨z123, e_z123⟩ : ∃ q, q = xs (Int32.toNatClampNeg z122) := ⟨_, rfl⟩
                                rw [← e_z123] at h ⊢
                                refine g_I I (run_V (As := [.int z123]) (rest := []) F I hr_x1 hk_x1 (by decide) kL_65 (ctX7_sixteenth hr_x1 hk_x1 h) ⟨rfl, rfl⟩ ⟨Nat.le_of_ble_eq_true rfl, Nat.le_of_ble_eq_true rfl⟩ rfl hl.1 rfl (Nat.le_of_ble_eq_true rfl) ⟨(by show cells + 0 + 0 ≤ 600000; omega), (by show slots + 0 + 0 ≤ 7302250; omega)⟩ dL_law_604) (fun z124 S H locs I h => ?_)
                                refine lv_pop F.1 F.2.1 dL_law_607 rfl ?_
                                refine lv_aload_n F.1 F.2.1 dL_law_608 rfl (lv_at hl 2 rfl) ?_
                                refine lv_aload_n F.1 F.2.1 dL_law_609 rfl (lv_at hl 0 rfl) ?_
                                refine lv_iload_n F.1 F.2.1 dL_law_610 rfl (lv_at hl 3 rfl) ?_
                                refine lv_iconst (v := 1) F.1 F.2.1 dL_law_611 (by decide) ?_
                                refine r_iadd F dL_law_612 h (fun z125 h => ?_)
                                obtain ⟨hin, h⟩ := h
                                refine va_sld F.1 F.2.1 hX hbl hbA I.S hin dL_law_613 ?_
                                obtain ⟨z126, e_z126⟩ : ∃ q, q = xs (Int32.toNatClampNeg z125) := ⟨_, rfl⟩
                                rw [← e_z126] at h ⊢
                                refine g_I I (run_V (As := [.int z126]) (rest := []) F I hr_x2 hk_x2 (by decide) kL_68 (ctX8_sixteenth hr_x2 hk_x2 h) ⟨rfl, rfl⟩ ⟨Nat.le_of_ble_eq_true rfl, Nat.le_of_ble_eq_true rfl⟩ rfl hl.1 rfl (Nat.le_of_ble_eq_true rfl) ⟨(by show cells + 0 + 0 ≤ 600000; omega), (by show slots + 0 + 0 ≤ 7302250; omega)⟩ dL_law_614) (fun z127 S H locs I h => ?_)
                                refine lv_pop F.1 F.2.1 dL_law_617 rfl ?_
                                refine lv_goto (tgt := 1425) F.1 F.2.1 dL_law_618 (by decide) ?_
                                refine W.widen (k := cells + 2) (n := slots + 99) (by omega) (by omega) ?_
                                exact hj_1425 M ln S _ _ _ x1 x2 x3 hN hr_x1 hk_x1 hr_x2 hk_x2 h I (lv_sub hl [0, 1, 2, 3] rfl)
                              · rw [if_neg c12] at h
                                by_cases c13 : z5 = (13 : Int32)
                                · rw [if_pos c13] at h
                                  refine lv_tableIn (off := 588) (tgt := 621) F.1 F.2.1 dL_law_33 (by rw [c13]; decide) (by rw [c13]; decide) (by rw [c13]; rfl) (by decide) ?_
                                  refine lv_aload_n F.1 F.2.1 dL_law_621 rfl (lv_at hl 1 rfl) ?_
                                  refine lv_aload_n F.1 F.2.1 dL_law_622 rfl (lv_at hl 0 rfl) ?_
                                  refine lv_iload_n F.1 F.2.1 dL_law_623 rfl (lv_at hl 3 rfl) ?_
                                  refine lv_iconst (v := 1) F.1 F.2.1 dL_law_624 (by decide) ?_
                                  refine r_iadd F dL_law_625 h (fun z128 h => ?_)
                                  obtain ⟨hin, h⟩ := h
                                  refine va_sld F.1 F.2.1 hX hbl hbA I.S hin dL_law_626 ?_
                                  obtain ⟨z129, e_z129⟩ : ∃ q, q = xs (Int32.toNatClampNeg z128) := ⟨_, rfl⟩
                                  rw [← e_z129] at h ⊢
                                  refine lv_aload_n F.1 F.2.1 dL_law_627 rfl (lv_at hl 0 rfl) ?_
                                  refine lv_iload_n F.1 F.2.1 dL_law_628 rfl (lv_at hl 3 rfl) ?_
                                  refine lv_iconst (v := 2) F.1 F.2.1 dL_law_629 (by decide) ?_
                                  refine r_iadd F dL_law_630 h (fun z130 h => ?_)
                                  obtain ⟨hin, h⟩ := h
                                  refine va_sld F.1 F.2.1 hX hbl hbA I.S hin dL_law_631 ?_
                                  obtain ⟨z131, e_z131⟩ : ∃ q, q = xs (Int32.toNatClampNeg z130) := ⟨_, rfl⟩
                                  rw [← e_z131] at h ⊢
                                  refine g_I I (run_V (As := [.int z129, .int z131]) (rest := []) F I hr_x1 hk_x1 (by decide) kL_69 (ctX7_from hr_x1 hk_x1 h) ⟨rfl, rfl⟩ ⟨Nat.le_of_ble_eq_true rfl, Nat.le_of_ble_eq_true rfl⟩ rfl hl.1 rfl (Nat.le_of_ble_eq_true rfl) ⟨(by show cells + 0 + 0 ≤ 600000; omega), (by show slots + 0 + 0 ≤ 7302250; omega)⟩ dL_law_632) (fun z132 S H locs I h => ?_)
                                  refine lv_pop F.1 F.2.1 dL_law_635 rfl ?_
                                  refine lv_aload_n F.1 F.2.1 dL_law_636 rfl (lv_at hl 2 rfl) ?_
                                  refine lv_aload_n F.1 F.2.1 dL_law_637 rfl (lv_at hl 0 rfl) ?_
                                  refine lv_iload_n F.1 F.2.1 dL_law_638 rfl (lv_at hl 3 rfl) ?_
                                  refine lv_iconst (v := 1) F.1 F.2.1 dL_law_639 (by decide) ?_
                                  refine r_iadd F dL_law_640 h (fun z133 h => ?_)
                                  obtain ⟨hin, h⟩ := h
                                  refine va_sld F.1 F.2.1 hX hbl hbA I.S hin dL_law_641 ?_
                                  obtain ⟨z134, e_z134⟩ : ∃ q, q = xs (Int32.toNatClampNeg z133) := ⟨_, rfl⟩
                                  rw [← e_z134] at h ⊢
                                  refine lv_aload_n F.1 F.2.1 dL_law_642 rfl (lv_at hl 0 rfl) ?_
                                  refine lv_iload_n F.1 F.2.1 dL_law_643 rfl (lv_at hl 3 rfl) ?_
                                  refine lv_iconst (v := 2) F.1 F.2.1 dL_law_644 (by decide) ?_
                                  refine r_iadd F dL_law_645 h (fun z135 h => ?_)
                                  obtain ⟨hin, h⟩ := h
                                  refine va_sld F.1 F.2.1 hX hbl hbA I.S hin dL_law_646 ?_
                                  obtain ⟨z136, e_z136⟩ : ∃ q, q = xs (Int32.toNatClampNeg z135) := ⟨_, rfl⟩
                                  rw [← e_z136] at h ⊢
                                  refine g_I I (run_V (As := [.int z134, .int z136]) (rest := []) F I hr_x2 hk_x2 (by decide) kL_72 (ctX8_from hr_x2 hk_x2 h) ⟨rfl, rfl⟩ ⟨Nat.le_of_ble_eq_true rfl, Nat.le_of_ble_eq_true rfl⟩ rfl hl.1 rfl (Nat.le_of_ble_eq_true rfl) ⟨(by show cells + 0 + 0 ≤ 600000; omega), (by show slots + 0 + 0 ≤ 7302250; omega)⟩ dL_law_647) (fun z137 S H locs I h => ?_)
                                  refine lv_pop F.1 F.2.1 dL_law_650 rfl ?_
                                  refine lv_goto (tgt := 1425) F.1 F.2.1 dL_law_651 (by decide) ?_
                                  refine W.widen (k := cells + 2) (n := slots + 99) (by omega) (by omega) ?_
                                  exact hj_1425 M ln S _ _ _ x1 x2 x3 hN hr_x1 hk_x1 hr_x2 hk_x2 h I (lv_sub hl [0, 1, 2, 3] rfl)
                                · rw [if_neg c13] at h
                                  by_cases c14 : z5 = (14 : Int32)
                                  · rw [if_pos c14] at h
                                    refine lv_tableIn (off := 621) (tgt := 654) F.1 F.2.1 dL_law_33 (by rw [c14]; decide) (by rw [c14]; decide) (by rw [c14]; rfl) (by decide) ?_
                                    refine lv_aload_n F.1 F.2.1 dL_law_654 rfl (lv_at hl 1 rfl) ?_
                                    refine lv_aload_n F.1 F.2.1 dL_law_655 rfl (lv_at hl 0 rfl) ?_
                                    refine lv_iload_n F.1 F.2.1 dL_law_656 rfl (lv_at hl 3 rfl) ?_
                                    refine lv_iconst (v := 1) F.1 F.2.1 dL_law_657 (by decide) ?_
                                    refine r_iadd F dL_law_658 h (fun z138 h => ?_)
                                    obtain ⟨hin, h⟩ := h
                                    refine va_sld F.1 F.2.1 hX hbl hbA I.S hin dL_law_659 ?_
                                    obtain ⟨z139, e_z139⟩ : ∃ q, q = xs (Int32.toNatClampNeg z138) := ⟨_, rfl⟩
                                    rw [← e_z139] at h ⊢
                                    refine lv_aload_n F.1 F.2.1 dL_law_660 rfl (lv_at hl 0 rfl) ?_
                                    refine lv_iload_n F.1 F.2.1 dL_law_661 rfl (lv_at hl 3 rfl) ?_
                                    refine lv_iconst (v := 2) F.1 F.2.1 dL_law_662 (by decide) ?_
                                    refine r_iadd F dL_law_663 h (fun z140 h => ?_)
                                    obtain ⟨hin, h⟩ := h
                                    refine va_sld F.1 F.2.1 hX hbl hbA I.S hin dL_law_664 ?_
                                    obtain ⟨z141, e_z141⟩ : ∃ q, q = xs (Int32.toNatClampNeg z140) := ⟨_, rfl⟩
                                    rw [← e_z141] at h ⊢
                                    refine lv_aload_n F.1 F.2.1 dL_law_665 rfl (lv_at hl 0 rfl) ?_
                                    refine lv_iload_n F.1 F.2.1 dL_law_666 rfl (lv_at hl 3 rfl) ?_
                                    refine lv_iconst (v := 3) F.1 F.2.1 dL_law_667 (by decide) ?_
                                    refine r_iadd F dL_law_668 h (fun z142 h => ?_)
                                    obtain ⟨hin, h⟩ := h
                                    refine va_sld F.1 F.2.1 hX hbl hbA I.S hin dL_law_669 ?_
                                    obtain ⟨z143, e_z143⟩ : ∃ q, q = xs (Int32.toNatClampNeg z142) := ⟨_, rfl⟩
                                    rw [← e_z143] at h ⊢
                                    refine g_I I (run_V (As := [.int z139, .int z141, .int z143]) (rest := []) F I hr_x1 hk_x1 (by decide) kL_73 (ctX7_match hr_x1 hk_x1 h) ⟨rfl, rfl⟩ ⟨Nat.le_of_ble_eq_true rfl, Nat.le_of_ble_eq_true rfl⟩ rfl hl.1 rfl (Nat.le_of_ble_eq_true rfl) ⟨(by show cells + 0 + 0 ≤ 600000; omega), (by show slots + 0 + 0 ≤ 7302250; omega)⟩ dL_law_670) (fun z144 S H locs I h => ?_)
                                    refine lv_pop F.1 F.2.1 dL_law_673 rfl ?_
                                    refine lv_aload_n F.1 F.2.1 dL_law_674 rfl (lv_at hl 2 rfl) ?_
                                    refine lv_aload_n F.1 F.2.1 dL_law_675 rfl (lv_at hl 0 rfl) ?_
                                    refine lv_iload_n F.1 F.2.1 dL_law_676 rfl (lv_at hl 3 rfl) ?_
                                    refine lv_iconst (v := 1) F.1 F.2.1 dL_law_677 (by decide) ?_
                                    refine r_iadd F dL_law_678 h (fun z145 h => ?_)
                                    obtain ⟨hin, h⟩ := h
                                    refine va_sld F.1 F.2.1 hX hbl hbA I.S hin dL_law_679 ?_
                                    obtain ⟨z146, e_z146⟩ : ∃ q, q = xs (Int32.toNatClampNeg z145) := ⟨_, rfl⟩
                                    rw [← e_z146] at h ⊢
                                    refine lv_aload_n F.1 F.2.1 dL_law_680 rfl (lv_at hl 0 rfl) ?_
                                    refine lv_iload_n F.1 F.2.1 dL_law_681 rfl (lv_at hl 3 rfl) ?_
                                    refine lv_iconst (v := 2) F.1 F.2.1 dL_law_682 (by decide) ?_
                                    refine r_iadd F dL_law_683 h (fun z147 h => ?_)
                                    obtain ⟨hin, h⟩ := h
                                    refine va_sld F.1 F.2.1 hX hbl hbA I.S hin dL_law_684 ?_
                                    obtain ⟨z148, e_z148⟩ : ∃ q, q = xs (Int32.toNatClampNeg z147) := ⟨_, rfl⟩
                                    rw [← e_z148] at h ⊢
                                    refine lv_aload_n F.1 F.2.1 dL_law_685 rfl (lv_at hl 0 rfl) ?_
                                    refine lv_iload_n F.1 F.2.1 dL_law_686 rfl (lv_at hl 3 rfl) ?_
                                    refine lv_iconst (v := 3) F.1 F.2.1 dL_law_687 (by decide) ?_
                                    refine r_iadd F dL_law_688 h (fun z149 h => ?_)
                                    obtain ⟨hin, h⟩ := h
                                    refine va_sld F.1 F.2.1 hX hbl hbA I.S hin dL_law_689 ?_
                                    obtain ⟨z150, e_z150⟩ : ∃ q, q = xs (Int32.toNatClampNeg z149) := ⟨_, rfl⟩
                                    rw [← e_z150] at h ⊢
                                    refine g_I I (run_V (As := [.int z146, .int z148, .int z150]) (rest := []) F I hr_x2 hk_x2 (by decide) kL_76 (ctX8_match hr_x2 hk_x2 h) ⟨rfl, rfl⟩ ⟨Nat.le_of_ble_eq_true rfl, Nat.le_of_ble_eq_true rfl⟩ rfl hl.1 rfl (Nat.le_of_ble_eq_true rfl) ⟨(by show cells + 0 + 0 ≤ 600000; omega), (by show slots + 0 + 0 ≤ 7302250; omega)⟩ dL_law_690) (fun z151 S H locs I h => ?_)
                                    refine lv_pop F.1 F.2.1 dL_law_693 rfl ?_
                                    refine lv_goto (tgt := 1425) F.1 F.2.1 dL_law_694 (by decide) ?_
                                    refine W.widen (k := cells + 2) (n := slots + 99) (by omega) (by omega) ?_
                                    exact hj_1425 M ln S _ _ _ x1 x2 x3 hN hr_x1 hk_x1 hr_x2 hk_x2 h I (lv_sub hl [0, 1, 2, 3] rfl)
                                  · rw [if_neg c14] at h
                                    by_cases c15 : z5 = (15 : Int32)
                                    · rw [if_pos c15] at h
                                      refine lv_tableIn (off := 664) (tgt := 697) F.1 F.2.1 dL_law_33 (by rw [c15]; decide) (by rw [c15]; decide) (by rw [c15]; rfl) (by decide) ?_
                                      refine lv_aload_n F.1 F.2.1 dL_law_697 rfl (lv_at hl 1 rfl) ?_
                                      refine g_I I (run_V (As := []) (rest := []) F I hr_x1 hk_x1 (by decide) kL_77 (ctX7_repaint hr_x1 hk_x1 h) ⟨rfl, rfl⟩ ⟨Nat.le_of_ble_eq_true rfl, Nat.le_of_ble_eq_true rfl⟩ rfl hl.1 rfl (Nat.le_of_ble_eq_true rfl) ⟨(by show cells + 0 + 0 ≤ 600000; omega), (by show slots + 0 + 0 ≤ 7302250; omega)⟩ dL_law_698) (fun z152 S H locs I h => ?_)
                                      refine lv_pop F.1 F.2.1 dL_law_701 rfl ?_
                                      refine lv_aload_n F.1 F.2.1 dL_law_702 rfl (lv_at hl 2 rfl) ?_
                                      refine g_I I (run_V (As := []) (rest := []) F I hr_x2 hk_x2 (by decide) kL_81 (ctX8_repaint hr_x2 hk_x2 h) ⟨rfl, rfl⟩ ⟨Nat.le_of_ble_eq_true rfl, Nat.le_of_ble_eq_true rfl⟩ rfl hl.1 rfl (Nat.le_of_ble_eq_true rfl) ⟨(by show cells + 0 + 0 ≤ 600000; omega), (by show slots + 0 + 0 ≤ 7302250; omega)⟩ dL_law_703) (fun z153 S H locs I h => ?_)
                                      refine lv_pop F.1 F.2.1 dL_law_706 rfl ?_
                                      refine lv_goto (tgt := 1425) F.1 F.2.1 dL_law_707 (by decide) ?_
                                      refine W.widen (k := cells + 2) (n := slots + 99) (by omega) (by omega) ?_
                                      exact hj_1425 M ln S _ _ _ x1 x2 x3 hN hr_x1 hk_x1 hr_x2 hk_x2 h I (lv_sub hl [0, 1, 2, 3] rfl)
                                    · rw [if_neg c15] at h
                                      by_cases c16 : z5 = (16 : Int32)
                                      · rw [if_pos c16] at h
                                        refine lv_tableIn (off := 677) (tgt := 710) F.1 F.2.1 dL_law_33 (by rw [c16]; decide) (by rw [c16]; decide) (by rw [c16]; rfl) (by decide) ?_
                                        refine lv_aload_n F.1 F.2.1 dL_law_710 rfl (lv_at hl 1 rfl) ?_
                                        refine lv_aload_n F.1 F.2.1 dL_law_711 rfl (lv_at hl 0 rfl) ?_
                                        refine lv_iload_n F.1 F.2.1 dL_law_712 rfl (lv_at hl 3 rfl) ?_
                                        refine lv_iconst (v := 1) F.1 F.2.1 dL_law_713 (by decide) ?_
                                        refine r_iadd F dL_law_714 h (fun z154 h => ?_)
                                        obtain ⟨hin, h⟩ := h
                                        refine va_sld F.1 F.2.1 hX hbl hbA I.S hin dL_law_715 ?_
                                        obtain ⟨z155, e_z155⟩ : ∃ q, q = xs (Int32.toNatClampNeg z154) := ⟨_, rfl⟩
                                        rw [← e_z155] at h ⊢
                                        refine lv_aload_n F.1 F.2.1 dL_law_716 rfl (lv_at hl 0 rfl) ?_
                                        refine lv_iload_n F.1 F.2.1 dL_law_717 rfl (lv_at hl 3 rfl) ?_
                                        refine lv_iconst (v := 2) F.1 F.2.1 dL_law_718 (by decide) ?_
                                        refine r_iadd F dL_law_719 h (fun z156 h => ?_)
                                        obtain ⟨hin, h⟩ := h
                                        refine va_sld F.1 F.2.1 hX hbl hbA I.S hin dL_law_720 ?_
                                        obtain ⟨z157, e_z157⟩ : ∃ q, q = xs (Int32.toNatClampNeg z156) := ⟨_, rfl⟩
                                        rw [← e_z157] at h ⊢
                                        refine g_I I (run_V (As := [.int z155, .int z157]) (rest := []) F I hr_x1 hk_x1 (by decide) kL_82 (ctX7_behind hr_x1 hk_x1 h) ⟨rfl, rfl⟩ ⟨Nat.le_of_ble_eq_true rfl, Nat.le_of_ble_eq_true rfl⟩ rfl hl.1 rfl (Nat.le_of_ble_eq_true rfl) ⟨(by show cells + 0 + 0 ≤ 600000; omega), (by show slots + 0 + 0 ≤ 7302250; omega)⟩ dL_law_721) (fun z158 S H locs I h => ?_)
                                        refine lv_pop F.1 F.2.1 dL_law_724 rfl ?_
                                        refine lv_aload_n F.1 F.2.1 dL_law_725 rfl (lv_at hl 2 rfl) ?_
                                        refine lv_aload_n F.1 F.2.1 dL_law_726 rfl (lv_at hl 0 rfl) ?_
                                        refine lv_iload_n F.1 F.2.1 dL_law_727 rfl (lv_at hl 3 rfl) ?_
                                        refine lv_iconst (v := 1) F.1 F.2.1 dL_law_728 (by decide) ?_
                                        refine r_iadd F dL_law_729 h (fun z159 h => ?_)
                                        obtain ⟨hin, h⟩ := h
                                        refine va_sld F.1 F.2.1 hX hbl hbA I.S hin dL_law_730 ?_
                                        obtain ⟨z160, e_z160⟩ : ∃ q, q = xs (Int32.toNatClampNeg z159) := ⟨_, rfl⟩
                                        rw [← e_z160] at h ⊢
                                        refine lv_aload_n F.1 F.2.1 dL_law_731 rfl (lv_at hl 0 rfl) ?_
                                        refine lv_iload_n F.1 F.2.1 dL_law_732 rfl (lv_at hl 3 rfl) ?_
                                        refine lv_iconst (v := 2) F.1 F.2.1 dL_law_733 (by decide) ?_
                                        refine r_iadd F dL_law_734 h (fun z161 h => ?_)
                                        obtain ⟨hin, h⟩ := h
                                        refine va_sld F.1 F.2.1 hX hbl hbA I.S hin dL_law_735 ?_
                                        obtain ⟨z162, e_z162⟩ : ∃ q, q = xs (Int32.toNatClampNeg z161) := ⟨_, rfl⟩
                                        rw [← e_z162] at h ⊢
                                        refine g_I I (run_V (As := [.int z160, .int z162]) (rest := []) F I hr_x2 hk_x2 (by decide) kL_85 (ctX8_behind hr_x2 hk_x2 h) ⟨rfl, rfl⟩ ⟨Nat.le_of_ble_eq_true rfl, Nat.le_of_ble_eq_true rfl⟩ rfl hl.1 rfl (Nat.le_of_ble_eq_true rfl) ⟨(by show cells + 0 + 0 ≤ 600000; omega), (by show slots + 0 + 0 ≤ 7302250; omega)⟩ dL_law_736) (fun z163 S H locs I h => ?_)
                                        refine lv_pop F.1 F.2.1 dL_law_739 rfl ?_
                                        refine lv_goto (tgt := 1425) F.1 F.2.1 dL_law_740 (by decide) ?_
                                        refine W.widen (k := cells + 2) (n := slots + 99) (by omega) (by omega) ?_
                                        exact hj_1425 M ln S _ _ _ x1 x2 x3 hN hr_x1 hk_x1 hr_x2 hk_x2 h I (lv_sub hl [0, 1, 2, 3] rfl)
                                      · rw [if_neg c16] at h
                                        by_cases c17 : z5 = (17 : Int32)
                                        · rw [if_pos c17] at h
                                          refine lv_tableIn (off := 710) (tgt := 743) F.1 F.2.1 dL_law_33 (by rw [c17]; decide) (by rw [c17]; decide) (by rw [c17]; rfl) (by decide) ?_
                                          refine lv_aload_n F.1 F.2.1 dL_law_743 rfl (lv_at hl 1 rfl) ?_
                                          refine g_I I (run_V (As := []) (rest := []) F I hr_x1 hk_x1 (by decide) kL_86 (ctX7_born hr_x1 hk_x1 h) ⟨rfl, rfl⟩ ⟨Nat.le_of_ble_eq_true rfl, Nat.le_of_ble_eq_true rfl⟩ rfl hl.1 rfl (Nat.le_of_ble_eq_true rfl) ⟨(by show cells + 0 + 0 ≤ 600000; omega), (by show slots + 0 + 0 ≤ 7302250; omega)⟩ dL_law_744) (fun z164 S H locs I h => ?_)
                                          refine lv_pop F.1 F.2.1 dL_law_747 rfl ?_
                                          refine lv_aload_n F.1 F.2.1 dL_law_748 rfl (lv_at hl 2 rfl) ?_
                                          refine g_I I (run_V (As := []) (rest := []) F I hr_x2 hk_x2 (by decide) kL_89 (ctX8_born hr_x2 hk_x2 h) ⟨rfl, rfl⟩ ⟨Nat.le_of_ble_eq_true rfl, Nat.le_of_ble_eq_true rfl⟩ rfl hl.1 rfl (Nat.le_of_ble_eq_true rfl) ⟨(by show cells + 0 + 0 ≤ 600000; omega), (by show slots + 0 + 0 ≤ 7302250; omega)⟩ dL_law_749) (fun z165 S H locs I h => ?_)
                                          refine lv_pop F.1 F.2.1 dL_law_752 rfl ?_
                                          refine lv_goto (tgt := 1425) F.1 F.2.1 dL_law_753 (by decide) ?_
                                          refine W.widen (k := cells + 2) (n := slots + 99) (by omega) (by omega) ?_
                                          exact hj_1425 M ln S _ _ _ x1 x2 x3 hN hr_x1 hk_x1 hr_x2 hk_x2 h I (lv_sub hl [0, 1, 2, 3] rfl)
                                        · rw [if_neg c17] at h
                                          by_cases c18 : z5 = (18 : Int32)
                                          · rw [if_pos c18] at h
                                            refine lv_tableIn (off := 723) (tgt := 756) F.1 F.2.1 dL_law_33 (by rw [c18]; decide) (by rw [c18]; decide) (by rw [c18]; rfl) (by decide) ?_
                                            refine lv_aload_n F.1 F.2.1 dL_law_756 rfl (lv_at hl 1 rfl) ?_
                                            refine lv_aload_n F.1 F.2.1 dL_law_757 rfl (lv_at hl 0 rfl) ?_
                                            refine lv_iload_n F.1 F.2.1 dL_law_758 rfl (lv_at hl 3 rfl) ?_
                                            refine lv_iconst (v := 1) F.1 F.2.1 dL_law_759 (by decide) ?_
                                            refine r_iadd F dL_law_760 h (fun z166 h => ?_)
                                            obtain ⟨hin, h⟩ := h
                                            refine va_sld F.1 F.2.1 hX hbl hbA I.S hin dL_law_761 ?_
                                            obtain ⟨z167, e_z167⟩ : ∃ q, q = xs (Int32.toNatClampNeg z166) := ⟨_, rfl⟩
                                            rw [← e_z167] at h ⊢
                                            refine lv_aload_n F.1 F.2.1 dL_law_762 rfl (lv_at hl 0 rfl) ?_
                                            refine lv_iload_n F.1 F.2.1 dL_law_763 rfl (lv_at hl 3 rfl) ?_
                                            refine lv_iconst (v := 2) F.1 F.2.1 dL_law_764 (by decide) ?_
                                            refine r_iadd F dL_law_765 h (fun z168 h => ?_)
                                            obtain ⟨hin, h⟩ := h
                                            refine va_sld F.1 F.2.1 hX hbl hbA I.S hin dL_law_766 ?_
                                            obtain ⟨z169, e_z169⟩ : ∃ q, q = xs (Int32.toNatClampNeg z168) := ⟨_, rfl⟩
                                            rw [← e_z169] at h ⊢
                                            refine g_I I (run_V (As := [.int z167, .int z169]) (rest := []) F I hr_x1 hk_x1 (by decide) kL_90 (ctX7_gone hr_x1 hk_x1 h) ⟨rfl, rfl⟩ ⟨Nat.le_of_ble_eq_true rfl, Nat.le_of_ble_eq_true rfl⟩ rfl hl.1 rfl (Nat.le_of_ble_eq_true rfl) ⟨(by show cells + 0 + 0 ≤ 600000; omega), (by show slots + 0 + 0 ≤ 7302250; omega)⟩ dL_law_767) (fun z170 S H locs I h => ?_)
                                            refine lv_pop F.1 F.2.1 dL_law_770 rfl ?_
                                            refine lv_aload_n F.1 F.2.1 dL_law_771 rfl (lv_at hl 2 rfl) ?_
                                            refine lv_aload_n F.1 F.2.1 dL_law_772 rfl (lv_at hl 0 rfl) ?_
                                            refine lv_iload_n F.1 F.2.1 dL_law_773 rfl (lv_at hl 3 rfl) ?_
                                            refine lv_iconst (v := 1) F.1 F.2.1 dL_law_774 (by decide) ?_
                                            refine r_iadd F dL_law_775 h (fun z171 h => ?_)
                                            obtain ⟨hin, h⟩ := h
                                            refine va_sld F.1 F.2.1 hX hbl hbA I.S hin dL_law_776 ?_
                                            obtain ⟨z172, e_z172⟩ : ∃ q, q = xs (Int32.toNatClampNeg z171) := ⟨_, rfl⟩
                                            rw [← e_z172] at h ⊢
                                            refine lv_aload_n F.1 F.2.1 dL_law_777 rfl (lv_at hl 0 rfl) ?_
                                            refine lv_iload_n F.1 F.2.1 dL_law_778 rfl (lv_at hl 3 rfl) ?_
                                            refine lv_iconst (v := 2) F.1 F.2.1 dL_law_779 (by decide) ?_
                                            refine r_iadd F dL_law_780 h (fun z173 h => ?_)
                                            obtain ⟨hin, h⟩ := h
                                            refine va_sld F.1 F.2.1 hX hbl hbA I.S hin dL_law_781 ?_
                                            obtain ⟨z174, e_z174⟩ : ∃ q, q = xs (Int32.toNatClampNeg z173) := ⟨_, rfl⟩
                                            rw [← e_z174] at h ⊢
                                            refine g_I I (run_V (As := [.int z172, .int z174]) (rest := []) F I hr_x2 hk_x2 (by decide) kL_93 (ctX8_gone hr_x2 hk_x2 h) ⟨rfl, rfl⟩ ⟨Nat.le_of_ble_eq_true rfl, Nat.le_of_ble_eq_true rfl⟩ rfl hl.1 rfl (Nat.le_of_ble_eq_true rfl) ⟨(by show cells + 0 + 0 ≤ 600000; omega), (by show slots + 0 + 0 ≤ 7302250; omega)⟩ dL_law_782) (fun z175 S H locs I h => ?_)
                                            refine lv_pop F.1 F.2.1 dL_law_785 rfl ?_
                                            refine lv_goto (tgt := 1425) F.1 F.2.1 dL_law_786 (by decide) ?_
                                            refine W.widen (k := cells + 2) (n := slots + 99) (by omega) (by omega) ?_
                                            exact hj_1425 M ln S _ _ _ x1 x2 x3 hN hr_x1 hk_x1 hr_x2 hk_x2 h I (lv_sub hl [0, 1, 2, 3] rfl)
                                          · rw [if_neg c18] at h
                                            by_cases c19 : z5 = (19 : Int32)
                                            · rw [if_pos c19] at h
                                              refine lv_tableIn (off := 756) (tgt := 789) F.1 F.2.1 dL_law_33 (by rw [c19]; decide) (by rw [c19]; decide) (by rw [c19]; rfl) (by decide) ?_
                                              refine lv_aload_n F.1 F.2.1 dL_law_789 rfl (lv_at hl 1 rfl) ?_
                                              refine lv_aload_n F.1 F.2.1 dL_law_790 rfl (lv_at hl 0 rfl) ?_
                                              refine lv_iload_n F.1 F.2.1 dL_law_791 rfl (lv_at hl 3 rfl) ?_
                                              refine lv_iconst (v := 1) F.1 F.2.1 dL_law_792 (by decide) ?_
                                              refine r_iadd F dL_law_793 h (fun z176 h => ?_)
                                              obtain ⟨hin, h⟩ := h
                                              refine va_sld F.1 F.2.1 hX hbl hbA I.S hin dL_law_794 ?_
                                              obtain ⟨z177, e_z177⟩ : ∃ q, q = xs (Int32.toNatClampNeg z176) := ⟨_, rfl⟩
                                              rw [← e_z177] at h ⊢
                                              refine lv_aload_n F.1 F.2.1 dL_law_795 rfl (lv_at hl 0 rfl) ?_
                                              refine lv_iload_n F.1 F.2.1 dL_law_796 rfl (lv_at hl 3 rfl) ?_
                                              refine lv_iconst (v := 2) F.1 F.2.1 dL_law_797 (by decide) ?_
                                              refine r_iadd F dL_law_798 h (fun z178 h => ?_)
                                              obtain ⟨hin, h⟩ := h
                                              refine va_sld F.1 F.2.1 hX hbl hbA I.S hin dL_law_799 ?_
                                              obtain ⟨z179, e_z179⟩ : ∃ q, q = xs (Int32.toNatClampNeg z178) := ⟨_, rfl⟩
                                              rw [← e_z179] at h ⊢
                                              refine g_I I (run_V (As := [.int z177, .int z179]) (rest := []) F I hr_x1 hk_x1 (by decide) kL_94 (ctX7_spoon hr_x1 hk_x1 h) ⟨rfl, rfl⟩ ⟨Nat.le_of_ble_eq_true rfl, Nat.le_of_ble_eq_true rfl⟩ rfl hl.1 rfl (Nat.le_of_ble_eq_true rfl) ⟨(by show cells + 0 + 0 ≤ 600000; omega), (by show slots + 0 + 0 ≤ 7302250; omega)⟩ dL_law_800) (fun z180 S H locs I h => ?_)
                                              refine lv_pop F.1 F.2.1 dL_law_803 rfl ?_
                                              refine lv_aload_n F.1 F.2.1 dL_law_804 rfl (lv_at hl 2 rfl) ?_
                                              refine lv_aload_n F.1 F.2.1 dL_law_805 rfl (lv_at hl 0 rfl) ?_
                                              refine lv_iload_n F.1 F.2.1 dL_law_806 rfl (lv_at hl 3 rfl) ?_
                                              refine lv_iconst (v := 1) F.1 F.2.1 dL_law_807 (by decide) ?_
                                              refine r_iadd F dL_law_808 h (fun z181 h => ?_)
                                              obtain ⟨hin, h⟩ := h
                                              refine va_sld F.1 F.2.1 hX hbl hbA I.S hin dL_law_809 ?_
                                              obtain ⟨z182, e_z182⟩ : ∃ q, q = xs (Int32.toNatClampNeg z181) := ⟨_, rfl⟩
                                              rw [← e_z182] at h ⊢
                                              refine lv_aload_n F.1 F.2.1 dL_law_810 rfl (lv_at hl 0 rfl) ?_
                                              refine lv_iload_n F.1 F.2.1 dL_law_811 rfl (lv_at hl 3 rfl) ?_
                                              refine lv_iconst (v := 2) F.1 F.2.1 dL_law_812 (by decide) ?_
                                              refine r_iadd F dL_law_813 h (fun z183 h => ?_)
                                              obtain ⟨hin, h⟩ := h
                                              refine va_sld F.1 F.2.1 hX hbl hbA I.S hin dL_law_814 ?_
                                              obtain ⟨z184, e_z184⟩ : ∃ q, q = xs (Int32.toNatClampNeg z183) := ⟨_, rfl⟩
                                              rw [← e_z184] at h ⊢
                                              refine g_I I (run_V (As := [.int z182, .int z184]) (rest := []) F I hr_x2 hk_x2 (by decide) kL_97 (ctX8_spoon hr_x2 hk_x2 h) ⟨rfl, rfl⟩ ⟨Nat.le_of_ble_eq_true rfl, Nat.le_of_ble_eq_true rfl⟩ rfl hl.1 rfl (Nat.le_of_ble_eq_true rfl) ⟨(by show cells + 0 + 0 ≤ 600000; omega), (by show slots + 0 + 0 ≤ 7302250; omega)⟩ dL_law_815) (fun z185 S H locs I h => ?_)
                                              refine lv_pop F.1 F.2.1 dL_law_818 rfl ?_
                                              refine lv_goto (tgt := 1425) F.1 F.2.1 dL_law_819 (by decide) ?_
                                              refine W.widen (k := cells + 2) (n := slots + 99) (by omega) (by omega) ?_
                                              exact hj_1425 M ln S _ _ _ x1 x2 x3 hN hr_x1 hk_x1 hr_x2 hk_x2 h I (lv_sub hl [0, 1, 2, 3] rfl)
                                            · rw [if_neg c19] at h
                                              by_cases c20 : z5 = (20 : Int32)
                                              · rw [if_pos c20] at h
                                                refine lv_tableIn (off := 789) (tgt := 822) F.1 F.2.1 dL_law_33 (by rw [c20]; decide) (by rw [c20]; decide) (by rw [c20]; rfl) (by decide) ?_
                                                refine lv_aload_n F.1 F.2.1 dL_law_822 rfl (lv_at hl 1 rfl) ?_
                                                refine g_I I (run_V (As := []) (rest := []) F I hr_x1 hk_x1 (by decide) kL_98 (ctX7_fee hr_x1 hk_x1 h) ⟨rfl, rfl⟩ ⟨Nat.le_of_ble_eq_true rfl, Nat.le_of_ble_eq_true rfl⟩ rfl hl.1 rfl (Nat.le_of_ble_eq_true rfl) ⟨(by show cells + 0 + 0 ≤ 600000; omega), (by show slots + 0 + 0 ≤ 7302250; omega)⟩ dL_law_823) (fun z186 S H locs I h => ?_)
                                                refine lv_pop F.1 F.2.1 dL_law_826 rfl ?_
                                                refine lv_aload_n F.1 F.2.1 dL_law_827 rfl (lv_at hl 2 rfl) ?_
                                                refine g_I I (run_V (As := []) (rest := []) F I hr_x2 hk_x2 (by decide) kL_101 (ctX8_fee hr_x2 hk_x2 h) ⟨rfl, rfl⟩ ⟨Nat.le_of_ble_eq_true rfl, Nat.le_of_ble_eq_true rfl⟩ rfl hl.1 rfl (Nat.le_of_ble_eq_true rfl) ⟨(by show cells + 0 + 0 ≤ 600000; omega), (by show slots + 0 + 0 ≤ 7302250; omega)⟩ dL_law_828) (fun z187 S H locs I h => ?_)
                                                refine lv_pop F.1 F.2.1 dL_law_831 rfl ?_
                                                refine lv_goto (tgt := 1425) F.1 F.2.1 dL_law_832 (by decide) ?_
                                                refine W.widen (k := cells + 2) (n := slots + 99) (by omega) (by omega) ?_
                                                exact hj_1425 M ln S _ _ _ x1 x2 x3 hN hr_x1 hk_x1 hr_x2 hk_x2 h I (lv_sub hl [0, 1, 2, 3] rfl)
                                              · rw [if_neg c20] at h
                                                by_cases c21 : z5 = (21 : Int32)
                                                · rw [if_pos c21] at h
                                                  refine lv_tableIn (off := 802) (tgt := 835) F.1 F.2.1 dL_law_33 (by rw [c21]; decide) (by rw [c21]; decide) (by rw [c21]; rfl) (by decide) ?_
                                                  refine lv_aload_n F.1 F.2.1 dL_law_835 rfl (lv_at hl 1 rfl) ?_
                                                  refine lv_aload_n F.1 F.2.1 dL_law_836 rfl (lv_at hl 0 rfl) ?_
                                                  refine lv_iload_n F.1 F.2.1 dL_law_837 rfl (lv_at hl 3 rfl) ?_
                                                  refine lv_iconst (v := 1) F.1 F.2.1 dL_law_838 (by decide) ?_
                                                  refine r_iadd F dL_law_839 h (fun z188 h => ?_)
                                                  obtain ⟨hin, h⟩ := h
                                                  refine va_sld F.1 F.2.1 hX hbl hbA I.S hin dL_law_840 ?_
                                                  obtain ⟨z189, e_z189⟩ : ∃ q, q = xs (Int32.toNatClampNeg z188) := ⟨_, rfl⟩
                                                  rw [← e_z189] at h ⊢
                                                  refine g_I I (run_V (As := [.int z189]) (rest := []) F I hr_x1 hk_x1 (by decide) kL_102 (ctX7_fine hr_x1 hk_x1 h) ⟨rfl, rfl⟩ ⟨Nat.le_of_ble_eq_true rfl, Nat.le_of_ble_eq_true rfl⟩ rfl hl.1 rfl (Nat.le_of_ble_eq_true rfl) ⟨(by show cells + 0 + 0 ≤ 600000; omega), (by show slots + 0 + 0 ≤ 7302250; omega)⟩ dL_law_841) (fun z190 S H locs I h => ?_)
                                                  refine lv_pop F.1 F.2.1 dL_law_844 rfl ?_
                                                  refine lv_aload_n F.1 F.2.1 dL_law_845 rfl (lv_at hl 2 rfl) ?_
                                                  refine lv_aload_n F.1 F.2.1 dL_law_846 rfl (lv_at hl 0 rfl) ?_
                                                  refine lv_iload_n F.1 F.2.1 dL_law_847 rfl (lv_at hl 3 rfl) ?_
                                                  refine lv_iconst (v := 1) F.1 F.2.1 dL_law_848 (by decide) ?_
                                                  refine r_iadd F dL_law_849 h (fun z191 h => ?_)
                                                  obtain ⟨hin, h⟩ := h
                                                  refine va_sld F.1 F.2.1 hX hbl hbA I.S hin dL_law_850 ?_
                                                  obtain ⟨z192, e_z192⟩ : ∃ q, q = xs (Int32.toNatClampNeg z191) := ⟨_, rfl⟩
                                                  rw [← e_z192] at h ⊢
                                                  refine g_I I (run_V (As := [.int z192]) (rest := []) F I hr_x2 hk_x2 (by decide) kL_105 (ctX8_fine hr_x2 hk_x2 h) ⟨rfl, rfl⟩ ⟨Nat.le_of_ble_eq_true rfl, Nat.le_of_ble_eq_true rfl⟩ rfl hl.1 rfl (Nat.le_of_ble_eq_true rfl) ⟨(by show cells + 0 + 0 ≤ 600000; omega), (by show slots + 0 + 0 ≤ 7302250; omega)⟩ dL_law_851) (fun z193 S H locs I h => ?_)
                                                  refine lv_pop F.1 F.2.1 dL_law_854 rfl ?_
                                                  refine lv_goto (tgt := 1425) F.1 F.2.1 dL_law_855 (by decide) ?_
                                                  refine W.widen (k := cells + 2) (n := slots + 99) (by omega) (by omega) ?_
                                                  exact hj_1425 M ln S _ _ _ x1 x2 x3 hN hr_x1 hk_x1 hr_x2 hk_x2 h I (lv_sub hl [0, 1, 2, 3] rfl)
                                                · rw [if_neg c21] at h
                                                  by_cases c22 : z5 = (22 : Int32)
                                                  · rw [if_pos c22] at h
                                                    refine lv_tableIn (off := 825) (tgt := 858) F.1 F.2.1 dL_law_33 (by rw [c22]; decide) (by rw [c22]; decide) (by rw [c22]; rfl) (by decide) ?_
                                                    refine lv_aload_n F.1 F.2.1 dL_law_858 rfl (lv_at hl 1 rfl) ?_
                                                    refine lv_aload_n F.1 F.2.1 dL_law_859 rfl (lv_at hl 0 rfl) ?_
                                                    refine lv_iload_n F.1 F.2.1 dL_law_860 rfl (lv_at hl 3 rfl) ?_
                                                    refine lv_iconst (v := 1) F.1 F.2.1 dL_law_861 (by decide) ?_
                                                    refine r_iadd F dL_law_862 h (fun z194 h => ?_)
                                                    obtain ⟨hin, h⟩ := h
                                                    refine va_sld F.1 F.2.1 hX hbl hbA I.S hin dL_law_863 ?_
                                                    obtain ⟨z195, e_z195⟩ : ∃ q, q = xs (Int32.toNatClampNeg z194) := ⟨_, rfl⟩
                                                    rw [← e_z195] at h ⊢
                                                    refine lv_aload_n F.1 F.2.1 dL_law_864 rfl (lv_at hl 0 rfl) ?_
                                                    refine lv_iload_n F.1 F.2.1 dL_law_865 rfl (lv_at hl 3 rfl) ?_
                                                    refine lv_iconst (v := 2) F.1 F.2.1 dL_law_866 (by decide) ?_
                                                    refine r_iadd F dL_law_867 h (fun z196 h => ?_)
                                                    obtain ⟨hin, h⟩ := h
                                                    refine va_sld F.1 F.2.1 hX hbl hbA I.S hin dL_law_868 ?_
                                                    obtain ⟨z197, e_z197⟩ : ∃ q, q = xs (Int32.toNatClampNeg z196) := ⟨_, rfl⟩
                                                    rw [← e_z197] at h ⊢
                                                    refine lv_aload_n F.1 F.2.1 dL_law_869 rfl (lv_at hl 0 rfl) ?_
                                                    refine lv_iload_n F.1 F.2.1 dL_law_870 rfl (lv_at hl 3 rfl) ?_
                                                    refine lv_iconst (v := 3) F.1 F.2.1 dL_law_871 (by decide) ?_
                                                    refine r_iadd F dL_law_872 h (fun z198 h => ?_)
                                                    obtain ⟨hin, h⟩ := h
                                                    refine va_sld F.1 F.2.1 hX hbl hbA I.S hin dL_law_873 ?_
                                                    obtain ⟨z199, e_z199⟩ : ∃ q, q = xs (Int32.toNatClampNeg z198) := ⟨_, rfl⟩
                                                    rw [← e_z199] at h ⊢
                                                    refine g_I I (run_V (As := [.int z195, .int z197, .int z199]) (rest := []) F I hr_x1 hk_x1 (by decide) kL_106 (ctX7_feed hr_x1 hk_x1 h) ⟨rfl, rfl⟩ ⟨Nat.le_of_ble_eq_true rfl, Nat.le_of_ble_eq_true rfl⟩ rfl hl.1 rfl (Nat.le_of_ble_eq_true rfl) ⟨(by show cells + 0 + 0 ≤ 600000; omega), (by show slots + 0 + 0 ≤ 7302250; omega)⟩ dL_law_874) (fun z200 S H locs I h => ?_)
                                                    refine lv_pop F.1 F.2.1 dL_law_877 rfl ?_
                                                    refine lv_aload_n F.1 F.2.1 dL_law_878 rfl (lv_at hl 2 rfl) ?_
                                                    refine lv_aload_n F.1 F.2.1 dL_law_879 rfl (lv_at hl 0 rfl) ?_
                                                    refine lv_iload_n F.1 F.2.1 dL_law_880 rfl (lv_at hl 3 rfl) ?_
                                                    refine lv_iconst (v := 1) F.1 F.2.1 dL_law_881 (by decide) ?_
                                                    refine r_iadd F dL_law_882 h (fun z201 h => ?_)
                                                    obtain ⟨hin, h⟩ := h
                                                    refine va_sld F.1 F.2.1 hX hbl hbA I.S hin dL_law_883 ?_
                                                    obtain ⟨z202, e_z202⟩ : ∃ q, q = xs (Int32.toNatClampNeg z201) := ⟨_, rfl⟩
                                                    rw [← e_z202] at h ⊢
                                                    refine lv_aload_n F.1 F.2.1 dL_law_884 rfl (lv_at hl 0 rfl) ?_
                                                    refine lv_iload_n F.1 F.2.1 dL_law_885 rfl (lv_at hl 3 rfl) ?_
                                                    refine lv_iconst (v := 2) F.1 F.2.1 dL_law_886 (by decide) ?_
                                                    refine r_iadd F dL_law_887 h (fun z203 h => ?_)
                                                    obtain ⟨hin, h⟩ := h
                                                    refine va_sld F.1 F.2.1 hX hbl hbA I.S hin dL_law_888 ?_
                                                    obtain ⟨z204, e_z204⟩ : ∃ q, q = xs (Int32.toNatClampNeg z203) := ⟨_, rfl⟩
                                                    rw [← e_z204] at h ⊢
                                                    refine lv_aload_n F.1 F.2.1 dL_law_889 rfl (lv_at hl 0 rfl) ?_
                                                    refine lv_iload_n F.1 F.2.1 dL_law_890 rfl (lv_at hl 3 rfl) ?_
                                                    refine lv_iconst (v := 3) F.1 F.2.1 dL_law_891 (by decide) ?_
                                                    refine r_iadd F dL_law_892 h (fun z205 h => ?_)
                                                    obtain ⟨hin, h⟩ := h
                                                    refine va_sld F.1 F.2.1 hX hbl hbA I.S hin dL_law_893 ?_
                                                    obtain ⟨z206, e_z206⟩ : ∃ q, q = xs (Int32.toNatClampNeg z205) := ⟨_, rfl⟩
                                                    rw [← e_z206] at h ⊢
                                                    refine g_I I (run_V (As := [.int z202, .int z204, .int z206]) (rest := []) F I hr_x2 hk_x2 (by decide) kL_109 (ctX8_feed hr_x2 hk_x2 h) ⟨rfl, rfl⟩ ⟨Nat.le_of_ble_eq_true rfl, Nat.le_of_ble_eq_true rfl⟩ rfl hl.1 rfl (Nat.le_of_ble_eq_true rfl) ⟨(by show cells + 0 + 0 ≤ 600000; omega), (by show slots + 0 + 0 ≤ 7302250; omega)⟩ dL_law_894) (fun z207 S H locs I h => ?_)
                                                    refine lv_pop F.1 F.2.1 dL_law_897 rfl ?_
                                                    refine lv_goto (tgt := 1425) F.1 F.2.1 dL_law_898 (by decide) ?_
                                                    refine W.widen (k := cells + 2) (n := slots + 99) (by omega) (by omega) ?_
                                                    exact hj_1425 M ln S _ _ _ x1 x2 x3 hN hr_x1 hk_x1 hr_x2 hk_x2 h I (lv_sub hl [0, 1, 2, 3] rfl)
                                                  · rw [if_neg c22] at h
                                                    by_cases c23 : z5 = (23 : Int32)
                                                    · rw [if_pos c23] at h
                                                      refine lv_tableIn (off := 868) (tgt := 901) F.1 F.2.1 dL_law_33 (by rw [c23]; decide) (by rw [c23]; decide) (by rw [c23]; rfl) (by decide) ?_
                                                      refine lv_aload_n F.1 F.2.1 dL_law_901 rfl (lv_at hl 1 rfl) ?_
                                                      refine lv_aload_n F.1 F.2.1 dL_law_902 rfl (lv_at hl 0 rfl) ?_
                                                      refine lv_iload_n F.1 F.2.1 dL_law_903 rfl (lv_at hl 3 rfl) ?_
                                                      refine lv_iconst (v := 1) F.1 F.2.1 dL_law_904 (by decide) ?_
                                                      refine r_iadd F dL_law_905 h (fun z208 h => ?_)
                                                      obtain ⟨hin, h⟩ := h
                                                      refine va_sld F.1 F.2.1 hX hbl hbA I.S hin dL_law_906 ?_
                                                      obtain ⟨z209, e_z209⟩ : ∃ q, q = xs (Int32.toNatClampNeg z208) := ⟨_, rfl⟩
                                                      rw [← e_z209] at h ⊢
                                                      refine g_I I (run_V (As := [.int z209]) (rest := []) F I hr_x1 hk_x1 (by decide) kL_110 (ctX7_trim hr_x1 hk_x1 h) ⟨rfl, rfl⟩ ⟨Nat.le_of_ble_eq_true rfl, Nat.le_of_ble_eq_true rfl⟩ rfl hl.1 rfl (Nat.le_of_ble_eq_true rfl) ⟨(by show cells + 0 + 0 ≤ 600000; omega), (by show slots + 0 + 0 ≤ 7302250; omega)⟩ dL_law_907) (fun z210 S H locs I h => ?_)
                                                      refine lv_pop F.1 F.2.1 dL_law_910 rfl ?_
                                                      refine lv_aload_n F.1 F.2.1 dL_law_911 rfl (lv_at hl 2 rfl) ?_
                                                      refine lv_aload_n F.1 F.2.1 dL_law_912 rfl (lv_at hl 0 rfl) ?_
                                                      refine lv_iload_n F.1 F.2.1 dL_law_913 rfl (lv_at hl 3 rfl) ?_
                                                      refine lv_iconst (v := 1) F.1 F.2.1 dL_law_914 (by decide) ?_
                                                      refine r_iadd F dL_law_915 h (fun z211 h => ?_)
                                                      obtain ⟨hin, h⟩ := h
                                                      refine va_sld F.1 F.2.1 hX hbl hbA I.S hin dL_law_916 ?_
                                                      obtain ⟨z212, e_z212⟩ : ∃ q, q = xs (Int32.toNatClampNeg z211) := ⟨_, rfl⟩
                                                      rw [← e_z212] at h ⊢
                                                      refine g_I I (run_V (As := [.int z212]) (rest := []) F I hr_x2 hk_x2 (by decide) kL_113 (ctX8_trim hr_x2 hk_x2 h) ⟨rfl, rfl⟩ ⟨Nat.le_of_ble_eq_true rfl, Nat.le_of_ble_eq_true rfl⟩ rfl hl.1 rfl (Nat.le_of_ble_eq_true rfl) ⟨(by show cells + 0 + 0 ≤ 600000; omega), (by show slots + 0 + 0 ≤ 7302250; omega)⟩ dL_law_917) (fun z213 S H locs I h => ?_)
                                                      refine lv_pop F.1 F.2.1 dL_law_920 rfl ?_
                                                      refine lv_goto (tgt := 1425) F.1 F.2.1 dL_law_921 (by decide) ?_
                                                      refine W.widen (k := cells + 2) (n := slots + 99) (by omega) (by omega) ?_
                                                      exact hj_1425 M ln S _ _ _ x1 x2 x3 hN hr_x1 hk_x1 hr_x2 hk_x2 h I (lv_sub hl [0, 1, 2, 3] rfl)
                                                    · rw [if_neg c23] at h
                                                      by_cases c24 : z5 = (24 : Int32)
                                                      · rw [if_pos c24] at h
                                                        refine lv_tableIn (off := 891) (tgt := 924) F.1 F.2.1 dL_law_33 (by rw [c24]; decide) (by rw [c24]; decide) (by rw [c24]; rfl) (by decide) ?_
                                                        refine lv_aload_n F.1 F.2.1 dL_law_924 rfl (lv_at hl 1 rfl) ?_
                                                        refine g_XI I (run_V (As := []) (rest := []) F I hr_x1 hk_x1 (by decide) kL_114 (ctX7_text hr_x1 hk_x1 h) ⟨rfl, rfl⟩ ⟨Nat.le_of_ble_eq_true rfl, Nat.le_of_ble_eq_true rfl⟩ rfl hl.1 rfl (Nat.le_of_ble_eq_true rfl) ⟨(by show cells + 0 + 2 ≤ 600000; omega), (by show slots + 0 + 99 ≤ 7302250; omega)⟩ dL_law_925) (fun z215 N214 ln S H locs hNN I h => ?_)
                                                        have hr_x1 := Nat.lt_of_lt_of_le hr_x1 hNN
                                                        have hr_x2 := Nat.lt_of_lt_of_le hr_x2 hNN
                                                        have hN := Nat.le_trans hN hNN
                                                        refine lv_pop F.1 F.2.1 dL_law_928 rfl ?_
                                                        refine lv_aload_n F.1 F.2.1 dL_law_929 rfl (lv_at hl 2 rfl) ?_
                                                        refine g_I I (run_V (As := []) (rest := []) F I hr_x2 hk_x2 (by decide) kL_117 (ctX8_text hr_x2 hk_x2 h) ⟨rfl, rfl⟩ ⟨Nat.le_of_ble_eq_true rfl, Nat.le_of_ble_eq_true rfl⟩ rfl hl.1 rfl (Nat.le_of_ble_eq_true rfl) ⟨(by show cells + 2 + 0 ≤ 600000; omega), (by show slots + 99 + 0 ≤ 7302250; omega)⟩ dL_law_930) (fun z216 S H locs I h => ?_)
                                                        refine lv_pop F.1 F.2.1 dL_law_933 rfl ?_
                                                        refine lv_goto (tgt := 1425) F.1 F.2.1 dL_law_934 (by decide) ?_
                                                        refine W.widen (k := cells + 2) (n := slots + 99) (by omega) (by omega) ?_
                                                        exact hj_1425 N214 ln S _ _ _ x1 x2 x3 hN hr_x1 hk_x1 hr_x2 hk_x2 h I (lv_sub hl [0, 1, 2, 3] rfl)
                                                      · rw [if_neg c24] at h
                                                        by_cases c25 : z5 = (25 : Int32)
                                                        · rw [if_pos c25] at h
                                                          refine lv_tableIn (off := 904) (tgt := 937) F.1 F.2.1 dL_law_33 (by rw [c25]; decide) (by rw [c25]; decide) (by rw [c25]; rfl) (by decide) ?_
                                                          refine lv_aload_n F.1 F.2.1 dL_law_937 rfl (lv_at hl 1 rfl) ?_
                                                          refine lv_aload_n F.1 F.2.1 dL_law_938 rfl (lv_at hl 0 rfl) ?_
                                                          refine lv_iload_n F.1 F.2.1 dL_law_939 rfl (lv_at hl 3 rfl) ?_
                                                          refine lv_iconst (v := 1) F.1 F.2.1 dL_law_940 (by decide) ?_
                                                          refine r_iadd F dL_law_941 h (fun z217 h => ?_)
                                                          obtain ⟨hin, h⟩ := h
                                                          refine va_sld F.1 F.2.1 hX hbl hbA I.S hin dL_law_942 ?_
                                                          obtain ⟨z218, e_z218⟩ : ∃ q, q = xs (Int32.toNatClampNeg z217) := ⟨_, rfl⟩
                                                          rw [← e_z218] at h ⊢
                                                          refine lv_aload_n F.1 F.2.1 dL_law_943 rfl (lv_at hl 0 rfl) ?_
                                                          refine lv_iload_n F.1 F.2.1 dL_law_944 rfl (lv_at hl 3 rfl) ?_
                                                          refine lv_iconst (v := 2) F.1 F.2.1 dL_law_945 (by decide) ?_
                                                          refine r_iadd F dL_law_946 h (fun z219 h => ?_)
                                                          obtain ⟨hin, h⟩ := h
                                                          refine va_sld F.1 F.2.1 hX hbl hbA I.S hin dL_law_947 ?_
                                                          obtain ⟨z220, e_z220⟩ : ∃ q, q = xs (Int32.toNatClampNeg z219) := ⟨_, rfl⟩
                                                          rw [← e_z220] at h ⊢
                                                          refine g_I I (run_V (As := [.int z218, .int z220]) (rest := []) F I hr_x1 hk_x1 (by decide) kL_118 (ctX7_textTold hr_x1 hk_x1 h) ⟨rfl, rfl⟩ ⟨Nat.le_of_ble_eq_true rfl, Nat.le_of_ble_eq_true rfl⟩ rfl hl.1 rfl (Nat.le_of_ble_eq_true rfl) ⟨(by show cells + 0 + 0 ≤ 600000; omega), (by show slots + 0 + 0 ≤ 7302250; omega)⟩ dL_law_948) (fun z221 S H locs I h => ?_)
                                                          refine lv_pop F.1 F.2.1 dL_law_951 rfl ?_
                                                          refine lv_aload_n F.1 F.2.1 dL_law_952 rfl (lv_at hl 2 rfl) ?_
                                                          refine lv_aload_n F.1 F.2.1 dL_law_953 rfl (lv_at hl 0 rfl) ?_
                                                          refine lv_iload_n F.1 F.2.1 dL_law_954 rfl (lv_at hl 3 rfl) ?_
                                                          refine lv_iconst (v := 1) F.1 F.2.1 dL_law_955 (by decide) ?_
                                                          refine r_iadd F dL_law_956 h (fun z222 h => ?_)
                                                          obtain ⟨hin, h⟩ := h
                                                          refine va_sld F.1 F.2.1 hX hbl hbA I.S hin dL_law_957 ?_
                                                          obtain ⟨z223, e_z223⟩ : ∃ q, q = xs (Int32.toNatClampNeg z222) := ⟨_, rfl⟩
                                                          rw [← e_z223] at h ⊢
                                                          refine lv_aload_n F.1 F.2.1 dL_law_958 rfl (lv_at hl 0 rfl) ?_
                                                          refine lv_iload_n F.1 F.2.1 dL_law_959 rfl (lv_at hl 3 rfl) ?_
                                                          refine lv_iconst (v := 2) F.1 F.2.1 dL_law_960 (by decide) ?_
                                                          refine r_iadd F dL_law_961 h (fun z224 h => ?_)
                                                          obtain ⟨hin, h⟩ := h
                                                          refine va_sld F.1 F.2.1 hX hbl hbA I.S hin dL_law_962 ?_
                                                          obtain ⟨z225, e_z225⟩ : ∃ q, q = xs (Int32.toNatClampNeg z224) := ⟨_, rfl⟩
                                                          rw [← e_z225] at h ⊢
                                                          refine g_I I (run_V (As := [.int z223, .int z225]) (rest := []) F I hr_x2 hk_x2 (by decide) kL_121 (ctX8_textTold hr_x2 hk_x2 h) ⟨rfl, rfl⟩ ⟨Nat.le_of_ble_eq_true rfl, Nat.le_of_ble_eq_true rfl⟩ rfl hl.1 rfl (Nat.le_of_ble_eq_true rfl) ⟨(by show cells + 0 + 0 ≤ 600000; omega), (by show slots + 0 + 0 ≤ 7302250; omega)⟩ dL_law_963) (fun z226 S H locs I h => ?_)
                                                          refine lv_pop F.1 F.2.1 dL_law_966 rfl ?_
                                                          refine lv_goto (tgt := 1425) F.1 F.2.1 dL_law_967 (by decide) ?_
                                                          refine W.widen (k := cells + 2) (n := slots + 99) (by omega) (by omega) ?_
                                                          exact hj_1425 M ln S _ _ _ x1 x2 x3 hN hr_x1 hk_x1 hr_x2 hk_x2 h I (lv_sub hl [0, 1, 2, 3] rfl)
                                                        · rw [if_neg c25] at h
                                                          by_cases c26 : z5 = (26 : Int32)
                                                          · rw [if_pos c26] at h
                                                            refine lv_tableIn (off := 937) (tgt := 970) F.1 F.2.1 dL_law_33 (by rw [c26]; decide) (by rw [c26]; decide) (by rw [c26]; rfl) (by decide) ?_
                                                            refine lv_aload_n F.1 F.2.1 dL_law_970 rfl (lv_at hl 1 rfl) ?_
                                                            refine lv_aload_n F.1 F.2.1 dL_law_971 rfl (lv_at hl 0 rfl) ?_
                                                            refine lv_iload_n F.1 F.2.1 dL_law_972 rfl (lv_at hl 3 rfl) ?_
                                                            refine lv_iconst (v := 1) F.1 F.2.1 dL_law_973 (by decide) ?_
                                                            refine r_iadd F dL_law_974 h (fun z227 h => ?_)
                                                            obtain ⟨hin, h⟩ := h
                                                            refine va_sld F.1 F.2.1 hX hbl hbA I.S hin dL_law_975 ?_
                                                            obtain ⟨z228, e_z228⟩ : ∃ q, q = xs (Int32.toNatClampNeg z227) := ⟨_, rfl⟩
                                                            rw [← e_z228] at h ⊢
                                                            refine g_I I (run_V (As := [.int z228]) (rest := []) F I hr_x1 hk_x1 (by decide) kL_122 (ctX7_why hr_x1 hk_x1 h) ⟨rfl, rfl⟩ ⟨Nat.le_of_ble_eq_true rfl, Nat.le_of_ble_eq_true rfl⟩ rfl hl.1 rfl (Nat.le_of_ble_eq_true rfl) ⟨(by show cells + 0 + 0 ≤ 600000; omega), (by show slots + 0 + 0 ≤ 7302250; omega)⟩ dL_law_976) (fun z229 S H locs I h => ?_)
                                                            refine lv_pop F.1 F.2.1 dL_law_979 rfl ?_
                                                            refine lv_aload_n F.1 F.2.1 dL_law_980 rfl (lv_at hl 2 rfl) ?_
                                                            refine lv_aload_n F.1 F.2.1 dL_law_981 rfl (lv_at hl 0 rfl) ?_
                                                            refine lv_iload_n F.1 F.2.1 dL_law_982 rfl (lv_at hl 3 rfl) ?_
                                                            refine lv_iconst (v := 1) F.1 F.2.1 dL_law_983 (by decide) ?_
                                                            refine r_iadd F dL_law_984 h (fun z230 h => ?_)
                                                            obtain ⟨hin, h⟩ := h
                                                            refine va_sld F.1 F.2.1 hX hbl hbA I.S hin dL_law_985 ?_
                                                            obtain ⟨z231, e_z231⟩ : ∃ q, q = xs (Int32.toNatClampNeg z230) := ⟨_, rfl⟩
                                                            rw [← e_z231] at h ⊢
                                                            refine g_I I (run_V (As := [.int z231]) (rest := []) F I hr_x2 hk_x2 (by decide) kL_125 (ctX8_why hr_x2 hk_x2 h) ⟨rfl, rfl⟩ ⟨Nat.le_of_ble_eq_true rfl, Nat.le_of_ble_eq_true rfl⟩ rfl hl.1 rfl (Nat.le_of_ble_eq_true rfl) ⟨(by show cells + 0 + 0 ≤ 600000; omega), (by show slots + 0 + 0 ≤ 7302250; omega)⟩ dL_law_986) (fun z232 S H locs I h => ?_)
                                                            refine lv_pop F.1 F.2.1 dL_law_989 rfl ?_
                                                            refine lv_goto (tgt := 1425) F.1 F.2.1 dL_law_990 (by decide) ?_
                                                            refine W.widen (k := cells + 2) (n := slots + 99) (by omega) (by omega) ?_
                                                            exact hj_1425 M ln S _ _ _ x1 x2 x3 hN hr_x1 hk_x1 hr_x2 hk_x2 h I (lv_sub hl [0, 1, 2, 3] rfl)
                                                          · rw [if_neg c26] at h
                                                            by_cases c27 : z5 = (27 : Int32)
                                                            · rw [if_pos c27] at h
                                                              refine lv_tableIn (off := 960) (tgt := 993) F.1 F.2.1 dL_law_33 (by rw [c27]; decide) (by rw [c27]; decide) (by rw [c27]; rfl) (by decide) ?_
                                                              refine lv_aload_n F.1 F.2.1 dL_law_993 rfl (lv_at hl 1 rfl) ?_
                                                              refine lv_aload_n F.1 F.2.1 dL_law_994 rfl (lv_at hl 0 rfl) ?_
                                                              refine lv_iload_n F.1 F.2.1 dL_law_995 rfl (lv_at hl 3 rfl) ?_
                                                              refine lv_iconst (v := 1) F.1 F.2.1 dL_law_996 (by decide) ?_
                                                              refine r_iadd F dL_law_997 h (fun z233 h => ?_)
                                                              obtain ⟨hin, h⟩ := h
                                                              refine va_sld F.1 F.2.1 hX hbl hbA I.S hin dL_law_998 ?_
                                                              obtain ⟨z234, e_z234⟩ : ∃ q, q = xs (Int32.toNatClampNeg z233) := ⟨_, rfl⟩
                                                              rw [← e_z234] at h ⊢
                                                              refine lv_aload_n F.1 F.2.1 dL_law_999 rfl (lv_at hl 0 rfl) ?_
                                                              refine lv_iload_n F.1 F.2.1 dL_law_1000 rfl (lv_at hl 3 rfl) ?_
                                                              refine lv_iconst (v := 2) F.1 F.2.1 dL_law_1001 (by decide) ?_
                                                              refine r_iadd F dL_law_1002 h (fun z235 h => ?_)
                                                              obtain ⟨hin, h⟩ := h
                                                              refine va_sld F.1 F.2.1 hX hbl hbA I.S hin dL_law_1003 ?_
                                                              obtain ⟨z236, e_z236⟩ : ∃ q, q = xs (Int32.toNatClampNeg z235) := ⟨_, rfl⟩
                                                              rw [← e_z236] at h ⊢
                                                              refine lv_aload_n F.1 F.2.1 dL_law_1004 rfl (lv_at hl 0 rfl) ?_
                                                              refine lv_iload_n F.1 F.2.1 dL_law_1005 rfl (lv_at hl 3 rfl) ?_
                                                              refine lv_iconst (v := 3) F.1 F.2.1 dL_law_1006 (by decide) ?_
                                                              refine r_iadd F dL_law_1007 h (fun z237 h => ?_)
                                                              obtain ⟨hin, h⟩ := h
                                                              refine va_sld F.1 F.2.1 hX hbl hbA I.S hin dL_law_1008 ?_
                                                              obtain ⟨z238, e_z238⟩ : ∃ q, q = xs (Int32.toNatClampNeg z237) := ⟨_, rfl⟩
                                                              rw [← e_z238] at h ⊢
                                                              refine g_I I (run_V (As := [.int z234, .int z236, .int z238]) (rest := []) F I hr_x1 hk_x1 (by decide) kL_126 (ctX7_sheet hr_x1 hk_x1 h) ⟨rfl, rfl⟩ ⟨Nat.le_of_ble_eq_true rfl, Nat.le_of_ble_eq_true rfl⟩ rfl hl.1 rfl (Nat.le_of_ble_eq_true rfl) ⟨(by show cells + 0 + 0 ≤ 600000; omega), (by show slots + 0 + 0 ≤ 7302250; omega)⟩ dL_law_1009) (fun z239 S H locs I h => ?_)
                                                              refine lv_pop F.1 F.2.1 dL_law_1012 rfl ?_
                                                              refine lv_aload_n F.1 F.2.1 dL_law_1013 rfl (lv_at hl 2 rfl) ?_
                                                              refine lv_aload_n F.1 F.2.1 dL_law_1014 rfl (lv_at hl 0 rfl) ?_
                                                              refine lv_iload_n F.1 F.2.1 dL_law_1015 rfl (lv_at hl 3 rfl) ?_
                                                              refine lv_iconst (v := 1) F.1 F.2.1 dL_law_1016 (by decide) ?_
                                                              refine r_iadd F dL_law_1017 h (fun z240 h => ?_)
                                                              obtain ⟨hin, h⟩ := h
                                                              refine va_sld F.1 F.2.1 hX hbl hbA I.S hin dL_law_1018 ?_
                                                              obtain ⟨z241, e_z241⟩ : ∃ q, q = xs (Int32.toNatClampNeg z240) := ⟨_, rfl⟩
                                                              rw [← e_z241] at h ⊢
                                                              refine lv_aload_n F.1 F.2.1 dL_law_1019 rfl (lv_at hl 0 rfl) ?_
                                                              refine lv_iload_n F.1 F.2.1 dL_law_1020 rfl (lv_at hl 3 rfl) ?_
                                                              refine lv_iconst (v := 2) F.1 F.2.1 dL_law_1021 (by decide) ?_
                                                              refine r_iadd F dL_law_1022 h (fun z242 h => ?_)
                                                              obtain ⟨hin, h⟩ := h
                                                              refine va_sld F.1 F.2.1 hX hbl hbA I.S hin dL_law_1023 ?_
                                                              obtain ⟨z243, e_z243⟩ : ∃ q, q = xs (Int32.toNatClampNeg z242) := ⟨_, rfl⟩
                                                              rw [← e_z243] at h ⊢
                                                              refine lv_aload_n F.1 F.2.1 dL_law_1024 rfl (lv_at hl 0 rfl) ?_
                                                              refine lv_iload_n F.1 F.2.1 dL_law_1025 rfl (lv_at hl 3 rfl) ?_
                                                              refine lv_iconst (v := 3) F.1 F.2.1 dL_law_1026 (by decide) ?_
                                                              refine r_iadd F dL_law_1027 h (fun z244 h => ?_)
                                                              obtain ⟨hin, h⟩ := h
                                                              refine va_sld F.1 F.2.1 hX hbl hbA I.S hin dL_law_1028 ?_
                                                              obtain ⟨z245, e_z245⟩ : ∃ q, q = xs (Int32.toNatClampNeg z244) := ⟨_, rfl⟩
                                                              rw [← e_z245] at h ⊢
                                                              refine g_I I (run_V (As := [.int z241, .int z243, .int z245]) (rest := []) F I hr_x2 hk_x2 (by decide) kL_129 (ctX8_sheet hr_x2 hk_x2 h) ⟨rfl, rfl⟩ ⟨Nat.le_of_ble_eq_true rfl, Nat.le_of_ble_eq_true rfl⟩ rfl hl.1 rfl (Nat.le_of_ble_eq_true rfl) ⟨(by show cells + 0 + 0 ≤ 600000; omega), (by show slots + 0 + 0 ≤ 7302250; omega)⟩ dL_law_1029) (fun z246 S H locs I h => ?_)
                                                              refine lv_pop F.1 F.2.1 dL_law_1032 rfl ?_
                                                              refine lv_goto (tgt := 1425) F.1 F.2.1 dL_law_1033 (by decide) ?_
                                                              refine W.widen (k := cells + 2) (n := slots + 99) (by omega) (by omega) ?_
                                                              exact hj_1425 M ln S _ _ _ x1 x2 x3 hN hr_x1 hk_x1 hr_x2 hk_x2 h I (lv_sub hl [0, 1, 2, 3] rfl)
                                                            · rw [if_neg c27] at h
                                                              by_cases c28 : z5 = (28 : Int32)
                                                              · rw [if_pos c28] at h
                                                                refine lv_tableIn (off := 1003) (tgt := 1036) F.1 F.2.1 dL_law_33 (by rw [c28]; decide) (by rw [c28]; decide) (by rw [c28]; rfl) (by decide) ?_
                                                                refine lv_aload_n F.1 F.2.1 dL_law_1036 rfl (lv_at hl 1 rfl) ?_
                                                                refine lv_aload_n F.1 F.2.1 dL_law_1037 rfl (lv_at hl 0 rfl) ?_
                                                                refine lv_iload_n F.1 F.2.1 dL_law_1038 rfl (lv_at hl 3 rfl) ?_
                                                                refine lv_iconst (v := 1) F.1 F.2.1 dL_law_1039 (by decide) ?_
                                                                refine r_iadd F dL_law_1040 h (fun z247 h => ?_)
                                                                obtain ⟨hin, h⟩ := h
                                                                refine va_sld F.1 F.2.1 hX hbl hbA I.S hin dL_law_1041 ?_
                                                                obtain ⟨z248, e_z248⟩ : ∃ q, q = xs (Int32.toNatClampNeg z247) := ⟨_, rfl⟩
                                                                rw [← e_z248] at h ⊢
                                                                refine lv_aload_n F.1 F.2.1 dL_law_1042 rfl (lv_at hl 0 rfl) ?_
                                                                refine lv_iload_n F.1 F.2.1 dL_law_1043 rfl (lv_at hl 3 rfl) ?_
                                                                refine lv_iconst (v := 2) F.1 F.2.1 dL_law_1044 (by decide) ?_
                                                                refine r_iadd F dL_law_1045 h (fun z249 h => ?_)
                                                                obtain ⟨hin, h⟩ := h
                                                                refine va_sld F.1 F.2.1 hX hbl hbA I.S hin dL_law_1046 ?_
                                                                obtain ⟨z250, e_z250⟩ : ∃ q, q = xs (Int32.toNatClampNeg z249) := ⟨_, rfl⟩
                                                                rw [← e_z250] at h ⊢
                                                                refine lv_aload_n F.1 F.2.1 dL_law_1047 rfl (lv_at hl 0 rfl) ?_
                                                                refine lv_iload_n F.1 F.2.1 dL_law_1048 rfl (lv_at hl 3 rfl) ?_
                                                                refine lv_iconst (v := 3) F.1 F.2.1 dL_law_1049 (by decide) ?_
                                                                refine r_iadd F dL_law_1050 h (fun z251 h => ?_)
                                                                obtain ⟨hin, h⟩ := h
                                                                refine va_sld F.1 F.2.1 hX hbl hbA I.S hin dL_law_1051 ?_
                                                                obtain ⟨z252, e_z252⟩ : ∃ q, q = xs (Int32.toNatClampNeg z251) := ⟨_, rfl⟩
                                                                rw [← e_z252] at h ⊢
                                                                refine g_I I (run_V (As := [.int z248, .int z250, .int z252]) (rest := []) F I hr_x1 hk_x1 (by decide) kL_130 (ctX7_mark hr_x1 hk_x1 h) ⟨rfl, rfl⟩ ⟨Nat.le_of_ble_eq_true rfl, Nat.le_of_ble_eq_true rfl⟩ rfl hl.1 rfl (Nat.le_of_ble_eq_true rfl) ⟨(by show cells + 0 + 0 ≤ 600000; omega), (by show slots + 0 + 0 ≤ 7302250; omega)⟩ dL_law_1052) (fun z253 S H locs I h => ?_)
                                                                refine lv_pop F.1 F.2.1 dL_law_1055 rfl ?_
                                                                refine lv_aload_n F.1 F.2.1 dL_law_1056 rfl (lv_at hl 2 rfl) ?_
                                                                refine lv_aload_n F.1 F.2.1 dL_law_1057 rfl (lv_at hl 0 rfl) ?_
                                                                refine lv_iload_n F.1 F.2.1 dL_law_1058 rfl (lv_at hl 3 rfl) ?_
                                                                refine lv_iconst (v := 1) F.1 F.2.1 dL_law_1059 (by decide) ?_
                                                                refine r_iadd F dL_law_1060 h (fun z254 h => ?_)
                                                                obtain ⟨hin, h⟩ := h
                                                                refine va_sld F.1 F.2.1 hX hbl hbA I.S hin dL_law_1061 ?_
                                                                obtain ⟨z255, e_z255⟩ : ∃ q, q = xs (Int32.toNatClampNeg z254) := ⟨_, rfl⟩
                                                                rw [← e_z255] at h ⊢
                                                                refine lv_aload_n F.1 F.2.1 dL_law_1062 rfl (lv_at hl 0 rfl) ?_
                                                                refine lv_iload_n F.1 F.2.1 dL_law_1063 rfl (lv_at hl 3 rfl) ?_
                                                                refine lv_iconst (v := 2) F.1 F.2.1 dL_law_1064 (by decide) ?_
                                                                refine r_iadd F dL_law_1065 h (fun z256 h => ?_)
                                                                obtain ⟨hin, h⟩ := h
                                                                refine va_sld F.1 F.2.1 hX hbl hbA I.S hin dL_law_1066 ?_
                                                                obtain ⟨z257, e_z257⟩ : ∃ q, q = xs (Int32.toNatClampNeg z256) := ⟨_, rfl⟩
                                                                rw [← e_z257] at h ⊢
                                                                refine lv_aload_n F.1 F.2.1 dL_law_1067 rfl (lv_at hl 0 rfl) ?_
                                                                refine lv_iload_n F.1 F.2.1 dL_law_1068 rfl (lv_at hl 3 rfl) ?_
                                                                refine lv_iconst (v := 3) F.1 F.2.1 dL_law_1069 (by decide) ?_
                                                                refine r_iadd F dL_law_1070 h (fun z258 h => ?_)
                                                                obtain ⟨hin, h⟩ := h
                                                                refine va_sld F.1 F.2.1 hX hbl hbA I.S hin dL_law_1071 ?_
                                                                obtain ⟨z259, e_z259⟩ : ∃ q, q = xs (Int32.toNatClampNeg z258) := ⟨_, rfl⟩
                                                                rw [← e_z259] at h ⊢
                                                                refine g_I I (run_V (As := [.int z255, .int z257, .int z259]) (rest := []) F I hr_x2 hk_x2 (by decide) kL_133 (ctX8_mark hr_x2 hk_x2 h) ⟨rfl, rfl⟩ ⟨Nat.le_of_ble_eq_true rfl, Nat.le_of_ble_eq_true rfl⟩ rfl hl.1 rfl (Nat.le_of_ble_eq_true rfl) ⟨(by show cells + 0 + 0 ≤ 600000; omega), (by show slots + 0 + 0 ≤ 7302250; omega)⟩ dL_law_1072) (fun z260 S H locs I h => ?_)
                                                                refine lv_pop F.1 F.2.1 dL_law_1075 rfl ?_
                                                                refine lv_goto (tgt := 1425) F.1 F.2.1 dL_law_1076 (by decide) ?_
                                                                refine W.widen (k := cells + 2) (n := slots + 99) (by omega) (by omega) ?_
                                                                exact hj_1425 M ln S _ _ _ x1 x2 x3 hN hr_x1 hk_x1 hr_x2 hk_x2 h I (lv_sub hl [0, 1, 2, 3] rfl)
                                                              · rw [if_neg c28] at h
                                                                by_cases c29 : z5 = (29 : Int32)
                                                                · rw [if_pos c29] at h
                                                                  refine lv_tableIn (off := 1046) (tgt := 1079) F.1 F.2.1 dL_law_33 (by rw [c29]; decide) (by rw [c29]; decide) (by rw [c29]; rfl) (by decide) ?_
                                                                  refine lv_aload_n F.1 F.2.1 dL_law_1079 rfl (lv_at hl 1 rfl) ?_
                                                                  refine lv_aload_n F.1 F.2.1 dL_law_1080 rfl (lv_at hl 0 rfl) ?_
                                                                  refine lv_iload_n F.1 F.2.1 dL_law_1081 rfl (lv_at hl 3 rfl) ?_
                                                                  refine lv_iconst (v := 1) F.1 F.2.1 dL_law_1082 (by decide) ?_
                                                                  refine r_iadd F dL_law_1083 h (fun z261 h => ?_)
                                                                  obtain ⟨hin, h⟩ := h
                                                                  refine va_sld F.1 F.2.1 hX hbl hbA I.S hin dL_law_1084 ?_
                                                                  obtain ⟨z262, e_z262⟩ : ∃ q, q = xs (Int32.toNatClampNeg z261) := ⟨_, rfl⟩
                                                                  rw [← e_z262] at h ⊢
                                                                  refine g_I I (run_V (As := [.int z262]) (rest := []) F I hr_x1 hk_x1 (by decide) kL_134 (ctX7_pour hr_x1 hk_x1 h) ⟨rfl, rfl⟩ ⟨Nat.le_of_ble_eq_true rfl, Nat.le_of_ble_eq_true rfl⟩ rfl hl.1 rfl (Nat.le_of_ble_eq_true rfl) ⟨(by show cells + 0 + 0 ≤ 600000; omega), (by show slots + 0 + 0 ≤ 7302250; omega)⟩ dL_law_1085) (fun z263 S H locs I h => ?_)
                                                                  refine lv_pop F.1 F.2.1 dL_law_1088 rfl ?_
                                                                  refine lv_aload_n F.1 F.2.1 dL_law_1089 rfl (lv_at hl 2 rfl) ?_
                                                                  refine lv_aload_n F.1 F.2.1 dL_law_1090 rfl (lv_at hl 0 rfl) ?_
                                                                  refine lv_iload_n F.1 F.2.1 dL_law_1091 rfl (lv_at hl 3 rfl) ?_
                                                                  refine lv_iconst (v := 1) F.1 F.2.1 dL_law_1092 (by decide) ?_
                                                                  refine r_iadd F dL_law_1093 h (fun z264 h => ?_)
                                                                  obtain ⟨hin, h⟩ := h
                                                                  refine va_sld F.1 F.2.1 hX hbl hbA I.S hin dL_law_1094 ?_
                                                                  obtain ⟨z265, e_z265⟩ : ∃ q, q = xs (Int32.toNatClampNeg z264) := ⟨_, rfl⟩
                                                                  rw [← e_z265] at h ⊢
                                                                  refine g_I I (run_V (As := [.int z265]) (rest := []) F I hr_x2 hk_x2 (by decide) kL_137 (ctX8_pour hr_x2 hk_x2 h) ⟨rfl, rfl⟩ ⟨Nat.le_of_ble_eq_true rfl, Nat.le_of_ble_eq_true rfl⟩ rfl hl.1 rfl (Nat.le_of_ble_eq_true rfl) ⟨(by show cells + 0 + 0 ≤ 600000; omega), (by show slots + 0 + 0 ≤ 7302250; omega)⟩ dL_law_1095) (fun z266 S H locs I h => ?_)
                                                                  refine lv_pop F.1 F.2.1 dL_law_1098 rfl ?_
                                                                  refine lv_goto (tgt := 1425) F.1 F.2.1 dL_law_1099 (by decide) ?_
                                                                  refine W.widen (k := cells + 2) (n := slots + 99) (by omega) (by omega) ?_
                                                                  exact hj_1425 M ln S _ _ _ x1 x2 x3 hN hr_x1 hk_x1 hr_x2 hk_x2 h I (lv_sub hl [0, 1, 2, 3] rfl)
                                                                · rw [if_neg c29] at h
                                                                  by_cases c30 : z5 = (30 : Int32)
                                                                  · rw [if_pos c30] at h
                                                                    refine lv_tableIn (off := 1069) (tgt := 1102) F.1 F.2.1 dL_law_33 (by rw [c30]; decide) (by rw [c30]; decide) (by rw [c30]; rfl) (by decide) ?_
                                                                    refine lv_aload_n F.1 F.2.1 dL_law_1102 rfl (lv_at hl 1 rfl) ?_
                                                                    refine lv_aload_n F.1 F.2.1 dL_law_1103 rfl (lv_at hl 0 rfl) ?_
                                                                    refine lv_iload_n F.1 F.2.1 dL_law_1104 rfl (lv_at hl 3 rfl) ?_
                                                                    refine lv_iconst (v := 1) F.1 F.2.1 dL_law_1105 (by decide) ?_
                                                                    refine r_iadd F dL_law_1106 h (fun z267 h => ?_)
                                                                    obtain ⟨hin, h⟩ := h
                                                                    refine va_sld F.1 F.2.1 hX hbl hbA I.S hin dL_law_1107 ?_
                                                                    obtain ⟨z268, e_z268⟩ : ∃ q, q = xs (Int32.toNatClampNeg z267) := ⟨_, rfl⟩
                                                                    rw [← e_z268] at h ⊢
                                                                    refine g_I I (run_V (As := [.int z268]) (rest := []) F I hr_x1 hk_x1 (by decide) kL_138 (ctX7_reads hr_x1 hk_x1 h) ⟨rfl, rfl⟩ ⟨Nat.le_of_ble_eq_true rfl, Nat.le_of_ble_eq_true rfl⟩ rfl hl.1 rfl (Nat.le_of_ble_eq_true rfl) ⟨(by show cells + 0 + 0 ≤ 600000; omega), (by show slots + 0 + 0 ≤ 7302250; omega)⟩ dL_law_1108) (fun z269 S H locs I h => ?_)
                                                                    refine lv_pop F.1 F.2.1 dL_law_1111 rfl ?_
                                                                    refine lv_aload_n F.1 F.2.1 dL_law_1112 rfl (lv_at hl 2 rfl) ?_
                                                                    refine lv_aload_n F.1 F.2.1 dL_law_1113 rfl (lv_at hl 0 rfl) ?_
                                                                    refine lv_iload_n F.1 F.2.1 dL_law_1114 rfl (lv_at hl 3 rfl) ?_
                                                                    refine lv_iconst (v := 1) F.1 F.2.1 dL_law_1115 (by decide) ?_
                                                                    refine r_iadd F dL_law_1116 h (fun z270 h => ?_)
                                                                    obtain ⟨hin, h⟩ := h
                                                                    refine va_sld F.1 F.2.1 hX hbl hbA I.S hin dL_law_1117 ?_
                                                                    obtain ⟨z271, e_z271⟩ : ∃ q, q = xs (Int32.toNatClampNeg z270) := ⟨_, rfl⟩
                                                                    rw [← e_z271] at h ⊢
                                                                    refine g_I I (run_V (As := [.int z271]) (rest := []) F I hr_x2 hk_x2 (by decide) kL_141 (ctX8_reads hr_x2 hk_x2 h) ⟨rfl, rfl⟩ ⟨Nat.le_of_ble_eq_true rfl, Nat.le_of_ble_eq_true rfl⟩ rfl hl.1 rfl (Nat.le_of_ble_eq_true rfl) ⟨(by show cells + 0 + 0 ≤ 600000; omega), (by show slots + 0 + 0 ≤ 7302250; omega)⟩ dL_law_1118) (fun z272 S H locs I h => ?_)
                                                                    refine lv_pop F.1 F.2.1 dL_law_1121 rfl ?_
                                                                    refine lv_goto (tgt := 1425) F.1 F.2.1 dL_law_1122 (by decide) ?_
                                                                    refine W.widen (k := cells + 2) (n := slots + 99) (by omega) (by omega) ?_
                                                                    exact hj_1425 M ln S _ _ _ x1 x2 x3 hN hr_x1 hk_x1 hr_x2 hk_x2 h I (lv_sub hl [0, 1, 2, 3] rfl)
                                                                  · rw [if_neg c30] at h
                                                                    by_cases c31 : z5 = (31 : Int32)
                                                                    · rw [if_pos c31] at h
                                                                      refine lv_tableIn (off := 1092) (tgt := 1125) F.1 F.2.1 dL_law_33 (by rw [c31]; decide) (by rw [c31]; decide) (by rw [c31]; rfl) (by decide) ?_
                                                                      refine lv_aload_n F.1 F.2.1 dL_law_1125 rfl (lv_at hl 1 rfl) ?_
                                                                      refine lv_aload_n F.1 F.2.1 dL_law_1126 rfl (lv_at hl 0 rfl) ?_
                                                                      refine lv_iload_n F.1 F.2.1 dL_law_1127 rfl (lv_at hl 3 rfl) ?_
                                                                      refine lv_iconst (v := 1) F.1 F.2.1 dL_law_1128 (by decide) ?_
                                                                      refine r_iadd F dL_law_1129 h (fun z273 h => ?_)
                                                                      obtain ⟨hin, h⟩ := h
                                                                      refine va_sld F.1 F.2.1 hX hbl hbA I.S hin dL_law_1130 ?_
                                                                      obtain ⟨z274, e_z274⟩ : ∃ q, q = xs (Int32.toNatClampNeg z273) := ⟨_, rfl⟩
                                                                      rw [← e_z274] at h ⊢
                                                                      refine lv_aload_n F.1 F.2.1 dL_law_1131 rfl (lv_at hl 0 rfl) ?_
                                                                      refine lv_iload_n F.1 F.2.1 dL_law_1132 rfl (lv_at hl 3 rfl) ?_
                                                                      refine lv_iconst (v := 2) F.1 F.2.1 dL_law_1133 (by decide) ?_
                                                                      refine r_iadd F dL_law_1134 h (fun z275 h => ?_)
                                                                      obtain ⟨hin, h⟩ := h
                                                                      refine va_sld F.1 F.2.1 hX hbl hbA I.S hin dL_law_1135 ?_
                                                                      obtain ⟨z276, e_z276⟩ : ∃ q, q = xs (Int32.toNatClampNeg z275) := ⟨_, rfl⟩
                                                                      rw [← e_z276] at h ⊢
                                                                      refine lv_aload_n F.1 F.2.1 dL_law_1136 rfl (lv_at hl 0 rfl) ?_
                                                                      refine lv_iload_n F.1 F.2.1 dL_law_1137 rfl (lv_at hl 3 rfl) ?_
                                                                      refine lv_iconst (v := 3) F.1 F.2.1 dL_law_1138 (by decide) ?_
                                                                      refine r_iadd F dL_law_1139 h (fun z277 h => ?_)
                                                                      obtain ⟨hin, h⟩ := h
                                                                      refine va_sld F.1 F.2.1 hX hbl hbA I.S hin dL_law_1140 ?_
                                                                      obtain ⟨z278, e_z278⟩ : ∃ q, q = xs (Int32.toNatClampNeg z277) := ⟨_, rfl⟩
                                                                      rw [← e_z278] at h ⊢
                                                                      refine lv_aload_n F.1 F.2.1 dL_law_1141 rfl (lv_at hl 0 rfl) ?_
                                                                      refine lv_iload_n F.1 F.2.1 dL_law_1142 rfl (lv_at hl 3 rfl) ?_
                                                                      refine lv_iconst (v := 4) F.1 F.2.1 dL_law_1143 (by decide) ?_
                                                                      refine r_iadd F dL_law_1144 h (fun z279 h => ?_)
                                                                      obtain ⟨hin, h⟩ := h
                                                                      refine va_sld F.1 F.2.1 hX hbl hbA I.S hin dL_law_1145 ?_
                                                                      obtain ⟨z280, e_z280⟩ : ∃ q, q = xs (Int32.toNatClampNeg z279) := ⟨_, rfl⟩
                                                                      rw [← e_z280] at h ⊢
                                                                      refine lv_aload_n F.1 F.2.1 dL_law_1146 rfl (lv_at hl 0 rfl) ?_
                                                                      refine lv_iload_n F.1 F.2.1 dL_law_1147 rfl (lv_at hl 3 rfl) ?_
                                                                      refine lv_iconst (v := 5) F.1 F.2.1 dL_law_1148 (by decide) ?_
                                                                      refine r_iadd F dL_law_1149 h (fun z281 h => ?_)
                                                                      obtain ⟨hin, h⟩ := h
                                                                      refine va_sld F.1 F.2.1 hX hbl hbA I.S hin dL_law_1150 ?_
                                                                      obtain ⟨z282, e_z282⟩ : ∃ q, q = xs (Int32.toNatClampNeg z281) := ⟨_, rfl⟩
                                                                      rw [← e_z282] at h ⊢
                                                                      refine g_I I (run_V (As := [.int z274, .int z276, .int z278, .int z280, .int z282]) (rest := []) F I hr_x1 hk_x1 (by decide) kL_142 (ctX7_copy hr_x1 hk_x1 h) ⟨rfl, rfl⟩ ⟨Nat.le_of_ble_eq_true rfl, Nat.le_of_ble_eq_true rfl⟩ rfl hl.1 rfl (Nat.le_of_ble_eq_true rfl) ⟨(by show cells + 0 + 0 ≤ 600000; omega), (by show slots + 0 + 0 ≤ 7302250; omega)⟩ dL_law_1151) (fun z283 S H locs I h => ?_)
                                                                      refine lv_pop F.1 F.2.1 dL_law_1154 rfl ?_
                                                                      refine lv_aload_n F.1 F.2.1 dL_law_1155 rfl (lv_at hl 2 rfl) ?_
                                                                      refine lv_aload_n F.1 F.2.1 dL_law_1156 rfl (lv_at hl 0 rfl) ?_
                                                                      refine lv_iload_n F.1 F.2.1 dL_law_1157 rfl (lv_at hl 3 rfl) ?_
                                                                      refine lv_iconst (v := 1) F.1 F.2.1 dL_law_1158 (by decide) ?_
                                                                      refine r_iadd F dL_law_1159 h (fun z284 h => ?_)
                                                                      obtain ⟨hin, h⟩ := h
                                                                      refine va_sld F.1 F.2.1 hX hbl hbA I.S hin dL_law_1160 ?_
                                                                      obtain ⟨z285, e_z285⟩ : ∃ q, q = xs (Int32.toNatClampNeg z284) := ⟨_, rfl⟩
                                                                      rw [← e_z285] at h ⊢
                                                                      refine lv_aload_n F.1 F.2.1 dL_law_1161 rfl (lv_at hl 0 rfl) ?_
                                                                      refine lv_iload_n F.1 F.2.1 dL_law_1162 rfl (lv_at hl 3 rfl) ?_
                                                                      refine lv_iconst (v := 2) F.1 F.2.1 dL_law_1163 (by decide) ?_
                                                                      refine r_iadd F dL_law_1164 h (fun z286 h => ?_)
                                                                      obtain ⟨hin, h⟩ := h
                                                                      refine va_sld F.1 F.2.1 hX hbl hbA I.S hin dL_law_1165 ?_
                                                                      obtain ⟨z287, e_z287⟩ : ∃ q, q = xs (Int32.toNatClampNeg z286) := ⟨_, rfl⟩
                                                                      rw [← e_z287] at h ⊢
                                                                      refine lv_aload_n F.1 F.2.1 dL_law_1166 rfl (lv_at hl 0 rfl) ?_
                                                                      refine lv_iload_n F.1 F.2.1 dL_law_1167 rfl (lv_at hl 3 rfl) ?_
                                                                      refine lv_iconst (v := 3) F.1 F.2.1 dL_law_1168 (by decide) ?_
                                                                      refine r_iadd F dL_law_1169 h (fun z288 h => ?_)
                                                                      obtain ⟨hin, h⟩ := h
                                                                      refine va_sld F.1 F.2.1 hX hbl hbA I.S hin dL_law_1170 ?_
                                                                      obtain ⟨z289, e_z289⟩ : ∃ q, q = xs (Int32.toNatClampNeg z288) := ⟨_, rfl⟩
                                                                      rw [← e_z289] at h ⊢
                                                                      refine lv_aload_n F.1 F.2.1 dL_law_1171 rfl (lv_at hl 0 rfl) ?_
                                                                      refine lv_iload_n F.1 F.2.1 dL_law_1172 rfl (lv_at hl 3 rfl) ?_
                                                                      refine lv_iconst (v := 4) F.1 F.2.1 dL_law_1173 (by decide) ?_
                                                                      refine r_iadd F dL_law_1174 h (fun z290 h => ?_)
                                                                      obtain ⟨hin, h⟩ := h
                                                                      refine va_sld F.1 F.2.1 hX hbl hbA I.S hin dL_law_1175 ?_
                                                                      obtain ⟨z291, e_z291⟩ : ∃ q, q = xs (Int32.toNatClampNeg z290) := ⟨_, rfl⟩
                                                                      rw [← e_z291] at h ⊢
                                                                      refine lv_aload_n F.1 F.2.1 dL_law_1176 rfl (lv_at hl 0 rfl) ?_
                                                                      refine lv_iload_n F.1 F.2.1 dL_law_1177 rfl (lv_at hl 3 rfl) ?_
                                                                      refine lv_iconst (v := 5) F.1 F.2.1 dL_law_1178 (by decide) ?_
                                                                      refine r_iadd F dL_law_1179 h (fun z292 h => ?_)
                                                                      obtain ⟨hin, h⟩ := h
                                                                      refine va_sld F.1 F.2.1 hX hbl hbA I.S hin dL_law_1180 ?_
                                                                      obtain ⟨z293, e_z293⟩ : ∃ q, q = xs (Int32.toNatClampNeg z292) := ⟨_, rfl⟩
                                                                      rw [← e_z293] at h ⊢
                                                                      refine g_I I (run_V (As := [.int z285, .int z287, .int z289, .int z291, .int z293]) (rest := []) F I hr_x2 hk_x2 (by decide) kL_145 (ctX8_copy hr_x2 hk_x2 h) ⟨rfl, rfl⟩ ⟨Nat.le_of_ble_eq_true rfl, Nat.le_of_ble_eq_true rfl⟩ rfl hl.1 rfl (Nat.le_of_ble_eq_true rfl) ⟨(by show cells + 0 + 0 ≤ 600000; omega), (by show slots + 0 + 0 ≤ 7302250; omega)⟩ dL_law_1181) (fun z294 S H locs I h => ?_)
                                                                      refine lv_pop F.1 F.2.1 dL_law_1184 rfl ?_
                                                                      refine lv_goto (tgt := 1425) F.1 F.2.1 dL_law_1185 (by decide) ?_
                                                                      refine W.widen (k := cells + 2) (n := slots + 99) (by omega) (by omega) ?_
                                                                      exact hj_1425 M ln S _ _ _ x1 x2 x3 hN hr_x1 hk_x1 hr_x2 hk_x2 h I (lv_sub hl [0, 1, 2, 3] rfl)
                                                                    · rw [if_neg c31] at h
                                                                      by_cases c32 : z5 = (32 : Int32)
                                                                      · rw [if_pos c32] at h
                                                                        refine lv_tableIn (off := 1155) (tgt := 1188) F.1 F.2.1 dL_law_33 (by rw [c32]; decide) (by rw [c32]; decide) (by rw [c32]; rfl) (by decide) ?_
                                                                        refine lv_aload_n F.1 F.2.1 dL_law_1188 rfl (lv_at hl 1 rfl) ?_
                                                                        refine lv_aload_n F.1 F.2.1 dL_law_1189 rfl (lv_at hl 0 rfl) ?_
                                                                        refine lv_iload_n F.1 F.2.1 dL_law_1190 rfl (lv_at hl 3 rfl) ?_
                                                                        refine lv_iconst (v := 1) F.1 F.2.1 dL_law_1191 (by decide) ?_
                                                                        refine r_iadd F dL_law_1192 h (fun z295 h => ?_)
                                                                        obtain ⟨hin, h⟩ := h
                                                                        refine va_sld F.1 F.2.1 hX hbl hbA I.S hin dL_law_1193 ?_
                                                                        obtain ⟨z296, e_z296⟩ : ∃ q, q = xs (Int32.toNatClampNeg z295) := ⟨_, rfl⟩
                                                                        rw [← e_z296] at h ⊢
                                                                        refine lv_aload_n F.1 F.2.1 dL_law_1194 rfl (lv_at hl 0 rfl) ?_
                                                                        refine lv_iload_n F.1 F.2.1 dL_law_1195 rfl (lv_at hl 3 rfl) ?_
                                                                        refine lv_iconst (v := 2) F.1 F.2.1 dL_law_1196 (by decide) ?_
                                                                        refine r_iadd F dL_law_1197 h (fun z297 h => ?_)
                                                                        obtain ⟨hin, h⟩ := h
                                                                        refine va_sld F.1 F.2.1 hX hbl hbA I.S hin dL_law_1198 ?_
                                                                        obtain ⟨z298, e_z298⟩ : ∃ q, q = xs (Int32.toNatClampNeg z297) := ⟨_, rfl⟩
                                                                        rw [← e_z298] at h ⊢
                                                                        refine lv_aload_n F.1 F.2.1 dL_law_1199 rfl (lv_at hl 0 rfl) ?_
                                                                        refine lv_iload_n F.1 F.2.1 dL_law_1200 rfl (lv_at hl 3 rfl) ?_
                                                                        refine lv_iconst (v := 3) F.1 F.2.1 dL_law_1201 (by decide) ?_
                                                                        refine r_iadd F dL_law_1202 h (fun z299 h => ?_)
                                                                        obtain ⟨hin, h⟩ := h
                                                                        refine va_sld F.1 F.2.1 hX hbl hbA I.S hin dL_law_1203 ?_
                                                                        obtain ⟨z300, e_z300⟩ : ∃ q, q = xs (Int32.toNatClampNeg z299) := ⟨_, rfl⟩
                                                                        rw [← e_z300] at h ⊢
                                                                        refine g_I I (run_V (As := [.int z296, .int z298, .int z300]) (rest := []) F I hr_x1 hk_x1 (by decide) kL_146 (ctX7_lay hr_x1 hk_x1 h) ⟨rfl, rfl⟩ ⟨Nat.le_of_ble_eq_true rfl, Nat.le_of_ble_eq_true rfl⟩ rfl hl.1 rfl (Nat.le_of_ble_eq_true rfl) ⟨(by show cells + 0 + 0 ≤ 600000; omega), (by show slots + 0 + 0 ≤ 7302250; omega)⟩ dL_law_1204) (fun z301 S H locs I h => ?_)
                                                                        refine lv_pop F.1 F.2.1 dL_law_1207 rfl ?_
                                                                        refine lv_aload_n F.1 F.2.1 dL_law_1208 rfl (lv_at hl 2 rfl) ?_
                                                                        refine lv_aload_n F.1 F.2.1 dL_law_1209 rfl (lv_at hl 0 rfl) ?_
                                                                        refine lv_iload_n F.1 F.2.1 dL_law_1210 rfl (lv_at hl 3 rfl) ?_
                                                                        refine lv_iconst (v := 1) F.1 F.2.1 dL_law_1211 (by decide) ?_
                                                                        refine r_iadd F dL_law_1212 h (fun z302 h => ?_)
                                                                        obtain ⟨hin, h⟩ := h
                                                                        refine va_sld F.1 F.2.1 hX hbl hbA I.S hin dL_law_1213 ?_
                                                                        obtain ⟨z303, e_z303⟩ : ∃ q, q = xs (Int32.toNatClampNeg z302) := ⟨_, rfl⟩
                                                                        rw [← e_z303] at h ⊢
                                                                        refine lv_aload_n F.1 F.2.1 dL_law_1214 rfl (lv_at hl 0 rfl) ?_
                                                                        refine lv_iload_n F.1 F.2.1 dL_law_1215 rfl (lv_at hl 3 rfl) ?_
                                                                        refine lv_iconst (v := 2) F.1 F.2.1 dL_law_1216 (by decide) ?_
                                                                        refine r_iadd F dL_law_1217 h (fun z304 h => ?_)
                                                                        obtain ⟨hin, h⟩ := h
                                                                        refine va_sld F.1 F.2.1 hX hbl hbA I.S hin dL_law_1218 ?_
                                                                        obtain ⟨z305, e_z305⟩ : ∃ q, q = xs (Int32.toNatClampNeg z304) := ⟨_, rfl⟩
                                                                        rw [← e_z305] at h ⊢
                                                                        refine lv_aload_n F.1 F.2.1 dL_law_1219 rfl (lv_at hl 0 rfl) ?_
                                                                        refine lv_iload_n F.1 F.2.1 dL_law_1220 rfl (lv_at hl 3 rfl) ?_
                                                                        refine lv_iconst (v := 3) F.1 F.2.1 dL_law_1221 (by decide) ?_
                                                                        refine r_iadd F dL_law_1222 h (fun z306 h => ?_)
                                                                        obtain ⟨hin, h⟩ := h
                                                                        refine va_sld F.1 F.2.1 hX hbl hbA I.S hin dL_law_1223 ?_
                                                                        obtain ⟨z307, e_z307⟩ : ∃ q, q = xs (Int32.toNatClampNeg z306) := ⟨_, rfl⟩
                                                                        rw [← e_z307] at h ⊢
                                                                        refine g_I I (run_V (As := [.int z303, .int z305, .int z307]) (rest := []) F I hr_x2 hk_x2 (by decide) kL_149 (ctX8_lay hr_x2 hk_x2 h) ⟨rfl, rfl⟩ ⟨Nat.le_of_ble_eq_true rfl, Nat.le_of_ble_eq_true rfl⟩ rfl hl.1 rfl (Nat.le_of_ble_eq_true rfl) ⟨(by show cells + 0 + 0 ≤ 600000; omega), (by show slots + 0 + 0 ≤ 7302250; omega)⟩ dL_law_1224) (fun z308 S H locs I h => ?_)
                                                                        refine lv_pop F.1 F.2.1 dL_law_1227 rfl ?_
                                                                        refine lv_goto (tgt := 1425) F.1 F.2.1 dL_law_1228 (by decide) ?_
                                                                        refine W.widen (k := cells + 2) (n := slots + 99) (by omega) (by omega) ?_
                                                                        exact hj_1425 M ln S _ _ _ x1 x2 x3 hN hr_x1 hk_x1 hr_x2 hk_x2 h I (lv_sub hl [0, 1, 2, 3] rfl)
                                                                      · rw [if_neg c32] at h
                                                                        by_cases c33 : z5 = (33 : Int32)
                                                                        · rw [if_pos c33] at h
                                                                          refine lv_tableIn (off := 1198) (tgt := 1231) F.1 F.2.1 dL_law_33 (by rw [c33]; decide) (by rw [c33]; decide) (by rw [c33]; rfl) (by decide) ?_
                                                                          refine lv_aload_n F.1 F.2.1 dL_law_1231 rfl (lv_at hl 1 rfl) ?_
                                                                          refine lv_aload_n F.1 F.2.1 dL_law_1232 rfl (lv_at hl 0 rfl) ?_
                                                                          refine lv_iload_n F.1 F.2.1 dL_law_1233 rfl (lv_at hl 3 rfl) ?_
                                                                          refine lv_iconst (v := 1) F.1 F.2.1 dL_law_1234 (by decide) ?_
                                                                          refine r_iadd F dL_law_1235 h (fun z309 h => ?_)
                                                                          obtain ⟨hin, h⟩ := h
                                                                          refine va_sld F.1 F.2.1 hX hbl hbA I.S hin dL_law_1236 ?_
                                                                          obtain ⟨z310, e_z310⟩ : ∃ q, q = xs (Int32.toNatClampNeg z309) := ⟨_, rfl⟩
                                                                          rw [← e_z310] at h ⊢
                                                                          refine lv_aload_n F.1 F.2.1 dL_law_1237 rfl (lv_at hl 0 rfl) ?_
                                                                          refine lv_iload_n F.1 F.2.1 dL_law_1238 rfl (lv_at hl 3 rfl) ?_
                                                                          refine lv_iconst (v := 2) F.1 F.2.1 dL_law_1239 (by decide) ?_
                                                                          refine r_iadd F dL_law_1240 h (fun z311 h => ?_)
                                                                          obtain ⟨hin, h⟩ := h
                                                                          refine va_sld F.1 F.2.1 hX hbl hbA I.S hin dL_law_1241 ?_
                                                                          obtain ⟨z312, e_z312⟩ : ∃ q, q = xs (Int32.toNatClampNeg z311) := ⟨_, rfl⟩
                                                                          rw [← e_z312] at h ⊢
                                                                          refine g_I I (run_V (As := [.int z310, .int z312]) (rest := []) F I hr_x1 hk_x1 (by decide) kL_150 (ctX7_ask hr_x1 hk_x1 h) ⟨rfl, rfl⟩ ⟨Nat.le_of_ble_eq_true rfl, Nat.le_of_ble_eq_true rfl⟩ rfl hl.1 rfl (Nat.le_of_ble_eq_true rfl) ⟨(by show cells + 0 + 0 ≤ 600000; omega), (by show slots + 0 + 0 ≤ 7302250; omega)⟩ dL_law_1242) (fun z313 S H locs I h => ?_)
                                                                          refine lv_pop F.1 F.2.1 dL_law_1245 rfl ?_
                                                                          refine lv_aload_n F.1 F.2.1 dL_law_1246 rfl (lv_at hl 2 rfl) ?_
                                                                          refine lv_aload_n F.1 F.2.1 dL_law_1247 rfl (lv_at hl 0 rfl) ?_
                                                                          refine lv_iload_n F.1 F.2.1 dL_law_1248 rfl (lv_at hl 3 rfl) ?_
                                                                          refine lv_iconst (v := 1) F.1 F.2.1 dL_law_1249 (by decide) ?_
                                                                          refine r_iadd F dL_law_1250 h (fun z314 h => ?_)
                                                                          obtain ⟨hin, h⟩ := h
                                                                          refine va_sld F.1 F.2.1 hX hbl hbA I.S hin dL_law_1251 ?_
                                                                          obtain ⟨z315, e_z315⟩ : ∃ q, q = xs (Int32.toNatClampNeg z314) := ⟨_, rfl⟩
                                                                          rw [← e_z315] at h ⊢
                                                                          refine lv_aload_n F.1 F.2.1 dL_law_1252 rfl (lv_at hl 0 rfl) ?_
                                                                          refine lv_iload_n F.1 F.2.1 dL_law_1253 rfl (lv_at hl 3 rfl) ?_
                                                                          refine lv_iconst (v := 2) F.1 F.2.1 dL_law_1254 (by decide) ?_
                                                                          refine r_iadd F dL_law_1255 h (fun z316 h => ?_)
                                                                          obtain ⟨hin, h⟩ := h
                                                                          refine va_sld F.1 F.2.1 hX hbl hbA I.S hin dL_law_1256 ?_
                                                                          obtain ⟨z317, e_z317⟩ : ∃ q, q = xs (Int32.toNatClampNeg z316) := ⟨_, rfl⟩
                                                                          rw [← e_z317] at h ⊢
                                                                          refine g_I I (run_V (As := [.int z315, .int z317]) (rest := []) F I hr_x2 hk_x2 (by decide) kL_153 (ctX8_ask hr_x2 hk_x2 h) ⟨rfl, rfl⟩ ⟨Nat.le_of_ble_eq_true rfl, Nat.le_of_ble_eq_true rfl⟩ rfl hl.1 rfl (Nat.le_of_ble_eq_true rfl) ⟨(by show cells + 0 + 0 ≤ 600000; omega), (by show slots + 0 + 0 ≤ 7302250; omega)⟩ dL_law_1257) (fun z318 S H locs I h => ?_)
                                                                          refine lv_pop F.1 F.2.1 dL_law_1260 rfl ?_
                                                                          refine lv_goto (tgt := 1425) F.1 F.2.1 dL_law_1261 (by decide) ?_
                                                                          refine W.widen (k := cells + 2) (n := slots + 99) (by omega) (by omega) ?_
                                                                          exact hj_1425 M ln S _ _ _ x1 x2 x3 hN hr_x1 hk_x1 hr_x2 hk_x2 h I (lv_sub hl [0, 1, 2, 3] rfl)
                                                                        · rw [if_neg c33] at h
                                                                          by_cases c34 : z5 = (34 : Int32)
                                                                          · rw [if_pos c34] at h
                                                                            refine lv_tableIn (off := 1231) (tgt := 1264) F.1 F.2.1 dL_law_33 (by rw [c34]; decide) (by rw [c34]; decide) (by rw [c34]; rfl) (by decide) ?_
                                                                            refine lv_aload_n F.1 F.2.1 dL_law_1264 rfl (lv_at hl 1 rfl) ?_
                                                                            refine lv_aload_n F.1 F.2.1 dL_law_1265 rfl (lv_at hl 0 rfl) ?_
                                                                            refine lv_iload_n F.1 F.2.1 dL_law_1266 rfl (lv_at hl 3 rfl) ?_
                                                                            refine lv_iconst (v := 1) F.1 F.2.1 dL_law_1267 (by decide) ?_
                                                                            refine r_iadd F dL_law_1268 h (fun z319 h => ?_)
                                                                            obtain ⟨hin, h⟩ := h
                                                                            refine va_sld F.1 F.2.1 hX hbl hbA I.S hin dL_law_1269 ?_
                                                                            obtain ⟨z320, e_z320⟩ : ∃ q, q = xs (Int32.toNatClampNeg z319) := ⟨_, rfl⟩
                                                                            rw [← e_z320] at h ⊢
                                                                            refine lv_aload_n F.1 F.2.1 dL_law_1270 rfl (lv_at hl 0 rfl) ?_
                                                                            refine lv_iload_n F.1 F.2.1 dL_law_1271 rfl (lv_at hl 3 rfl) ?_
                                                                            refine lv_iconst (v := 2) F.1 F.2.1 dL_law_1272 (by decide) ?_
                                                                            refine r_iadd F dL_law_1273 h (fun z321 h => ?_)
                                                                            obtain ⟨hin, h⟩ := h
                                                                            refine va_sld F.1 F.2.1 hX hbl hbA I.S hin dL_law_1274 ?_
                                                                            obtain ⟨z322, e_z322⟩ : ∃ q, q = xs (Int32.toNatClampNeg z321) := ⟨_, rfl⟩
                                                                            rw [← e_z322] at h ⊢
                                                                            refine g_I I (run_V (As := [.int z320, .int z322]) (rest := []) F I hr_x1 hk_x1 (by decide) kL_154 (ctX7_item hr_x1 hk_x1 h) ⟨rfl, rfl⟩ ⟨Nat.le_of_ble_eq_true rfl, Nat.le_of_ble_eq_true rfl⟩ rfl hl.1 rfl (Nat.le_of_ble_eq_true rfl) ⟨(by show cells + 0 + 0 ≤ 600000; omega), (by show slots + 0 + 0 ≤ 7302250; omega)⟩ dL_law_1275) (fun z323 S H locs I h => ?_)
                                                                            refine lv_pop F.1 F.2.1 dL_law_1278 rfl ?_
                                                                            refine lv_aload_n F.1 F.2.1 dL_law_1279 rfl (lv_at hl 2 rfl) ?_
                                                                            refine lv_aload_n F.1 F.2.1 dL_law_1280 rfl (lv_at hl 0 rfl) ?_
                                                                            refine lv_iload_n F.1 F.2.1 dL_law_1281 rfl (lv_at hl 3 rfl) ?_
                                                                            refine lv_iconst (v := 1) F.1 F.2.1 dL_law_1282 (by decide) ?_
                                                                            refine r_iadd F dL_law_1283 h (fun z324 h => ?_)
                                                                            obtain ⟨hin, h⟩ := h
                                                                            refine va_sld F.1 F.2.1 hX hbl hbA I.S hin dL_law_1284 ?_
                                                                            obtain ⟨z325, e_z325⟩ : ∃ q, q = xs (Int32.toNatClampNeg z324) := ⟨_, rfl⟩
                                                                            rw [← e_z325] at h ⊢
                                                                            refine lv_aload_n F.1 F.2.1 dL_law_1285 rfl (lv_at hl 0 rfl) ?_
                                                                            refine lv_iload_n F.1 F.2.1 dL_law_1286 rfl (lv_at hl 3 rfl) ?_
                                                                            refine lv_iconst (v := 2) F.1 F.2.1 dL_law_1287 (by decide) ?_
                                                                            refine r_iadd F dL_law_1288 h (fun z326 h => ?_)
                                                                            obtain ⟨hin, h⟩ := h
                                                                            refine va_sld F.1 F.2.1 hX hbl hbA I.S hin dL_law_1289 ?_
                                                                            obtain ⟨z327, e_z327⟩ : ∃ q, q = xs (Int32.toNatClampNeg z326) := ⟨_, rfl⟩
                                                                            rw [← e_z327] at h ⊢
                                                                            refine g_I I (run_V (As := [.int z325, .int z327]) (rest := []) F I hr_x2 hk_x2 (by decide) kL_157 (ctX8_item hr_x2 hk_x2 h) ⟨rfl, rfl⟩ ⟨Nat.le_of_ble_eq_true rfl, Nat.le_of_ble_eq_true rfl⟩ rfl hl.1 rfl (Nat.le_of_ble_eq_true rfl) ⟨(by show cells + 0 + 0 ≤ 600000; omega), (by show slots + 0 + 0 ≤ 7302250; omega)⟩ dL_law_1290) (fun z328 S H locs I h => ?_)
                                                                            refine lv_pop F.1 F.2.1 dL_law_1293 rfl ?_
                                                                            refine lv_goto (tgt := 1425) F.1 F.2.1 dL_law_1294 (by decide) ?_
                                                                            refine W.widen (k := cells + 2) (n := slots + 99) (by omega) (by omega) ?_
                                                                            exact hj_1425 M ln S _ _ _ x1 x2 x3 hN hr_x1 hk_x1 hr_x2 hk_x2 h I (lv_sub hl [0, 1, 2, 3] rfl)
                                                                          · rw [if_neg c34] at h
                                                                            by_cases c35 : z5 = (35 : Int32)
                                                                            · rw [if_pos c35] at h
                                                                              refine lv_tableIn (off := 1264) (tgt := 1297) F.1 F.2.1 dL_law_33 (by rw [c35]; decide) (by rw [c35]; decide) (by rw [c35]; rfl) (by decide) ?_
                                                                              refine lv_aload_n F.1 F.2.1 dL_law_1297 rfl (lv_at hl 1 rfl) ?_
                                                                              refine lv_aload_n F.1 F.2.1 dL_law_1298 rfl (lv_at hl 0 rfl) ?_
                                                                              refine lv_iload_n F.1 F.2.1 dL_law_1299 rfl (lv_at hl 3 rfl) ?_
                                                                              refine lv_iconst (v := 1) F.1 F.2.1 dL_law_1300 (by decide) ?_
                                                                              refine r_iadd F dL_law_1301 h (fun z329 h => ?_)
                                                                              obtain ⟨hin, h⟩ := h
                                                                              refine va_sld F.1 F.2.1 hX hbl hbA I.S hin dL_law_1302 ?_
                                                                              obtain ⟨z330, e_z330⟩ : ∃ q, q = xs (Int32.toNatClampNeg z329) := ⟨_, rfl⟩
                                                                              rw [← e_z330] at h ⊢
                                                                              refine lv_aload_n F.1 F.2.1 dL_law_1303 rfl (lv_at hl 0 rfl) ?_
                                                                              refine lv_iload_n F.1 F.2.1 dL_law_1304 rfl (lv_at hl 3 rfl) ?_
                                                                              refine lv_iconst (v := 2) F.1 F.2.1 dL_law_1305 (by decide) ?_
                                                                              refine r_iadd F dL_law_1306 h (fun z331 h => ?_)
                                                                              obtain ⟨hin, h⟩ := h
                                                                              refine va_sld F.1 F.2.1 hX hbl hbA I.S hin dL_law_1307 ?_
                                                                              obtain ⟨z332, e_z332⟩ : ∃ q, q = xs (Int32.toNatClampNeg z331) := ⟨_, rfl⟩
                                                                              rw [← e_z332] at h ⊢
                                                                              refine g_I I (run_V (As := [.int z330, .int z332]) (rest := []) F I hr_x1 hk_x1 (by decide) kL_158 (ctX7_rest hr_x1 hk_x1 h) ⟨rfl, rfl⟩ ⟨Nat.le_of_ble_eq_true rfl, Nat.le_of_ble_eq_true rfl⟩ rfl hl.1 rfl (Nat.le_of_ble_eq_true rfl) ⟨(by show cells + 0 + 0 ≤ 600000; omega), (by show slots + 0 + 0 ≤ 7302250; omega)⟩ dL_law_1308) (fun z333 S H locs I h => ?_)
                                                                              refine lv_pop F.1 F.2.1 dL_law_1311 rfl ?_
                                                                              refine lv_aload_n F.1 F.2.1 dL_law_1312 rfl (lv_at hl 2 rfl) ?_
                                                                              refine lv_aload_n F.1 F.2.1 dL_law_1313 rfl (lv_at hl 0 rfl) ?_
                                                                              refine lv_iload_n F.1 F.2.1 dL_law_1314 rfl (lv_at hl 3 rfl) ?_
                                                                              refine lv_iconst (v := 1) F.1 F.2.1 dL_law_1315 (by decide) ?_
                                                                              refine r_iadd F dL_law_1316 h (fun z334 h => ?_)
                                                                              obtain ⟨hin, h⟩ := h
                                                                              refine va_sld F.1 F.2.1 hX hbl hbA I.S hin dL_law_1317 ?_
                                                                              obtain ⟨z335, e_z335⟩ : ∃ q, q = xs (Int32.toNatClampNeg z334) := ⟨_, rfl⟩
                                                                              rw [← e_z335] at h ⊢
                                                                              refine lv_aload_n F.1 F.2.1 dL_law_1318 rfl (lv_at hl 0 rfl) ?_
                                                                              refine lv_iload_n F.1 F.2.1 dL_law_1319 rfl (lv_at hl 3 rfl) ?_
                                                                              refine lv_iconst (v := 2) F.1 F.2.1 dL_law_1320 (by decide) ?_
                                                                              refine r_iadd F dL_law_1321 h (fun z336 h => ?_)
                                                                              obtain ⟨hin, h⟩ := h
                                                                              refine va_sld F.1 F.2.1 hX hbl hbA I.S hin dL_law_1322 ?_
                                                                              obtain ⟨z337, e_z337⟩ : ∃ q, q = xs (Int32.toNatClampNeg z336) := ⟨_, rfl⟩
                                                                              rw [← e_z337] at h ⊢
                                                                              refine g_I I (run_V (As := [.int z335, .int z337]) (rest := []) F I hr_x2 hk_x2 (by decide) kL_161 (ctX8_rest hr_x2 hk_x2 h) ⟨rfl, rfl⟩ ⟨Nat.le_of_ble_eq_true rfl, Nat.le_of_ble_eq_true rfl⟩ rfl hl.1 rfl (Nat.le_of_ble_eq_true rfl) ⟨(by show cells + 0 + 0 ≤ 600000; omega), (by show slots + 0 + 0 ≤ 7302250; omega)⟩ dL_law_1323) (fun z338 S H locs I h => ?_)
                                                                              refine lv_pop F.1 F.2.1 dL_law_1326 rfl ?_
                                                                              refine lv_goto (tgt := 1425) F.1 F.2.1 dL_law_1327 (by decide) ?_
                                                                              refine W.widen (k := cells + 2) (n := slots + 99) (by omega) (by omega) ?_
                                                                              exact hj_1425 M ln S _ _ _ x1 x2 x3 hN hr_x1 hk_x1 hr_x2 hk_x2 h I (lv_sub hl [0, 1, 2, 3] rfl)
                                                                            · rw [if_neg c35] at h
                                                                              by_cases c36 : z5 = (36 : Int32)
                                                                              · rw [if_pos c36] at h
                                                                                refine lv_tableIn (off := 1297) (tgt := 1330) F.1 F.2.1 dL_law_33 (by rw [c36]; decide) (by rw [c36]; decide) (by rw [c36]; rfl) (by decide) ?_
                                                                                refine lv_aload_n F.1 F.2.1 dL_law_1330 rfl (lv_at hl 1 rfl) ?_
                                                                                refine lv_aload_n F.1 F.2.1 dL_law_1331 rfl (lv_at hl 0 rfl) ?_
                                                                                refine lv_iload_n F.1 F.2.1 dL_law_1332 rfl (lv_at hl 3 rfl) ?_
                                                                                refine lv_iconst (v := 1) F.1 F.2.1 dL_law_1333 (by decide) ?_
                                                                                refine r_iadd F dL_law_1334 h (fun z339 h => ?_)
                                                                                obtain ⟨hin, h⟩ := h
                                                                                refine va_sld F.1 F.2.1 hX hbl hbA I.S hin dL_law_1335 ?_
                                                                                obtain ⟨z340, e_z340⟩ : ∃ q, q = xs (Int32.toNatClampNeg z339) := ⟨_, rfl⟩
                                                                                rw [← e_z340] at h ⊢
                                                                                refine g_I I (run_V (As := [.int z340]) (rest := []) F I hr_x1 hk_x1 (by decide) kL_162 (ctX7_tell hr_x1 hk_x1 h) ⟨rfl, rfl⟩ ⟨Nat.le_of_ble_eq_true rfl, Nat.le_of_ble_eq_true rfl⟩ rfl hl.1 rfl (Nat.le_of_ble_eq_true rfl) ⟨(by show cells + 0 + 0 ≤ 600000; omega), (by show slots + 0 + 0 ≤ 7302250; omega)⟩ dL_law_1336) (fun z341 S H locs I h => ?_)
                                                                                refine lv_pop F.1 F.2.1 dL_law_1339 rfl ?_
                                                                                refine lv_aload_n F.1 F.2.1 dL_law_1340 rfl (lv_at hl 2 rfl) ?_
                                                                                refine lv_aload_n F.1 F.2.1 dL_law_1341 rfl (lv_at hl 0 rfl) ?_
                                                                                refine lv_iload_n F.1 F.2.1 dL_law_1342 rfl (lv_at hl 3 rfl) ?_
                                                                                refine lv_iconst (v := 1) F.1 F.2.1 dL_law_1343 (by decide) ?_
                                                                                refine r_iadd F dL_law_1344 h (fun z342 h => ?_)
                                                                                obtain ⟨hin, h⟩ := h
                                                                                refine va_sld F.1 F.2.1 hX hbl hbA I.S hin dL_law_1345 ?_
                                                                                obtain ⟨z343, e_z343⟩ : ∃ q, q = xs (Int32.toNatClampNeg z342) := ⟨_, rfl⟩
                                                                                rw [← e_z343] at h ⊢
                                                                                refine g_I I (run_V (As := [.int z343]) (rest := []) F I hr_x2 hk_x2 (by decide) kL_165 (ctX8_tell hr_x2 hk_x2 h) ⟨rfl, rfl⟩ ⟨Nat.le_of_ble_eq_true rfl, Nat.le_of_ble_eq_true rfl⟩ rfl hl.1 rfl (Nat.le_of_ble_eq_true rfl) ⟨(by show cells + 0 + 0 ≤ 600000; omega), (by show slots + 0 + 0 ≤ 7302250; omega)⟩ dL_law_1346) (fun z344 S H locs I h => ?_)
                                                                                refine lv_pop F.1 F.2.1 dL_law_1349 rfl ?_
                                                                                refine lv_goto (tgt := 1425) F.1 F.2.1 dL_law_1350 (by decide) ?_
                                                                                refine W.widen (k := cells + 2) (n := slots + 99) (by omega) (by omega) ?_
                                                                                exact hj_1425 M ln S _ _ _ x1 x2 x3 hN hr_x1 hk_x1 hr_x2 hk_x2 h I (lv_sub hl [0, 1, 2, 3] rfl)
                                                                              · rw [if_neg c36] at h
                                                                                by_cases c37 : z5 = (37 : Int32)
                                                                                · rw [if_pos c37] at h
                                                                                  refine lv_tableIn (off := 1320) (tgt := 1353) F.1 F.2.1 dL_law_33 (by rw [c37]; decide) (by rw [c37]; decide) (by rw [c37]; rfl) (by decide) ?_
                                                                                  refine lv_aload_n F.1 F.2.1 dL_law_1353 rfl (lv_at hl 1 rfl) ?_
                                                                                  refine lv_aload_n F.1 F.2.1 dL_law_1354 rfl (lv_at hl 0 rfl) ?_
                                                                                  refine lv_iload_n F.1 F.2.1 dL_law_1355 rfl (lv_at hl 3 rfl) ?_
                                                                                  refine lv_iconst (v := 1) F.1 F.2.1 dL_law_1356 (by decide) ?_
                                                                                  refine r_iadd F dL_law_1357 h (fun z345 h => ?_)
                                                                                  obtain ⟨hin, h⟩ := h
                                                                                  refine va_sld F.1 F.2.1 hX hbl hbA I.S hin dL_law_1358 ?_
                                                                                  obtain ⟨z346, e_z346⟩ : ∃ q, q = xs (Int32.toNatClampNeg z345) := ⟨_, rfl⟩
                                                                                  rw [← e_z346] at h ⊢
                                                                                  refine g_I I (run_V (As := [.int z346]) (rest := []) F I hr_x1 hk_x1 (by decide) kL_166 (ctX7_check hr_x1 hk_x1 h) ⟨rfl, rfl⟩ ⟨Nat.le_of_ble_eq_true rfl, Nat.le_of_ble_eq_true rfl⟩ rfl hl.1 rfl (Nat.le_of_ble_eq_true rfl) ⟨(by show cells + 0 + 0 ≤ 600000; omega), (by show slots + 0 + 0 ≤ 7302250; omega)⟩ dL_law_1359) (fun z347 S H locs I h => ?_)
                                                                                  refine lv_pop F.1 F.2.1 dL_law_1362 rfl ?_
                                                                                  refine lv_aload_n F.1 F.2.1 dL_law_1363 rfl (lv_at hl 2 rfl) ?_
                                                                                  refine lv_aload_n F.1 F.2.1 dL_law_1364 rfl (lv_at hl 0 rfl) ?_
                                                                                  refine lv_iload_n F.1 F.2.1 dL_law_1365 rfl (lv_at hl 3 rfl) ?_
                                                                                  refine lv_iconst (v := 1) F.1 F.2.1 dL_law_1366 (by decide) ?_
                                                                                  refine r_iadd F dL_law_1367 h (fun z348 h => ?_)
                                                                                  obtain ⟨hin, h⟩ := h
                                                                                  refine va_sld F.1 F.2.1 hX hbl hbA I.S hin dL_law_1368 ?_
                                                                                  obtain ⟨z349, e_z349⟩ : ∃ q, q = xs (Int32.toNatClampNeg z348) := ⟨_, rfl⟩
                                                                                  rw [← e_z349] at h ⊢
                                                                                  refine g_I I (run_V (As := [.int z349]) (rest := []) F I hr_x2 hk_x2 (by decide) kL_169 (ctX8_check hr_x2 hk_x2 h) ⟨rfl, rfl⟩ ⟨Nat.le_of_ble_eq_true rfl, Nat.le_of_ble_eq_true rfl⟩ rfl hl.1 rfl (Nat.le_of_ble_eq_true rfl) ⟨(by show cells + 0 + 0 ≤ 600000; omega), (by show slots + 0 + 0 ≤ 7302250; omega)⟩ dL_law_1369) (fun z350 S H locs I h => ?_)
                                                                                  refine lv_pop F.1 F.2.1 dL_law_1372 rfl ?_
                                                                                  refine lv_goto (tgt := 1425) F.1 F.2.1 dL_law_1373 (by decide) ?_
                                                                                  refine W.widen (k := cells + 2) (n := slots + 99) (by omega) (by omega) ?_
                                                                                  exact hj_1425 M ln S _ _ _ x1 x2 x3 hN hr_x1 hk_x1 hr_x2 hk_x2 h I (lv_sub hl [0, 1, 2, 3] rfl)
                                                                                · rw [if_neg c37] at h
                                                                                  by_cases c38 : z5 = (38 : Int32)
                                                                                  · rw [if_pos c38] at h
                                                                                    refine lv_tableIn (off := 1343) (tgt := 1376) F.1 F.2.1 dL_law_33 (by rw [c38]; decide) (by rw [c38]; decide) (by rw [c38]; rfl) (by decide) ?_
                                                                                    refine lv_aload_n F.1 F.2.1 dL_law_1376 rfl (lv_at hl 1 rfl) ?_
                                                                                    refine g_I I (run_V (As := []) (rest := []) F I hr_x1 hk_x1 (by decide) kL_170 (ctX7_keep hr_x1 hk_x1 h) ⟨rfl, rfl⟩ ⟨Nat.le_of_ble_eq_true rfl, Nat.le_of_ble_eq_true rfl⟩ rfl hl.1 rfl (Nat.le_of_ble_eq_true rfl) ⟨(by show cells + 0 + 0 ≤ 600000; omega), (by show slots + 0 + 0 ≤ 7302250; omega)⟩ dL_law_1377) (fun z351 S H locs I h => ?_)
                                                                                    refine lv_pop F.1 F.2.1 dL_law_1380 rfl ?_
                                                                                    refine lv_aload_n F.1 F.2.1 dL_law_1381 rfl (lv_at hl 2 rfl) ?_
                                                                                    refine g_I I (run_V (As := []) (rest := []) F I hr_x2 hk_x2 (by decide) kL_173 (ctX8_keep hr_x2 hk_x2 h) ⟨rfl, rfl⟩ ⟨Nat.le_of_ble_eq_true rfl, Nat.le_of_ble_eq_true rfl⟩ rfl hl.1 rfl (Nat.le_of_ble_eq_true rfl) ⟨(by show cells + 0 + 0 ≤ 600000; omega), (by show slots + 0 + 0 ≤ 7302250; omega)⟩ dL_law_1382) (fun z352 S H locs I h => ?_)
                                                                                    refine lv_pop F.1 F.2.1 dL_law_1385 rfl ?_
                                                                                    refine lv_goto (tgt := 1425) F.1 F.2.1 dL_law_1386 (by decide) ?_
                                                                                    refine W.widen (k := cells + 2) (n := slots + 99) (by omega) (by omega) ?_
                                                                                    exact hj_1425 M ln S _ _ _ x1 x2 x3 hN hr_x1 hk_x1 hr_x2 hk_x2 h I (lv_sub hl [0, 1, 2, 3] rfl)
                                                                                  · rw [if_neg c38] at h
                                                                                    by_cases c39 : z5 = (39 : Int32)
                                                                                    · rw [if_pos c39] at h
                                                                                      refine lv_tableIn (off := 1356) (tgt := 1389) F.1 F.2.1 dL_law_33 (by rw [c39]; decide) (by rw [c39]; decide) (by rw [c39]; rfl) (by decide) ?_
                                                                                      refine lv_aload_n F.1 F.2.1 dL_law_1389 rfl (lv_at hl 1 rfl) ?_
                                                                                      refine g_I I (run_V (As := []) (rest := []) F I hr_x1 hk_x1 (by decide) kL_174 (ctX7_back hr_x1 hk_x1 h) ⟨rfl, rfl⟩ ⟨Nat.le_of_ble_eq_true rfl, Nat.le_of_ble_eq_true rfl⟩ rfl hl.1 rfl (Nat.le_of_ble_eq_true rfl) ⟨(by show cells + 0 + 0 ≤ 600000; omega), (by show slots + 0 + 0 ≤ 7302250; omega)⟩ dL_law_1390) (fun z353 S H locs I h => ?_)
                                                                                      refine lv_pop F.1 F.2.1 dL_law_1393 rfl ?_
                                                                                      refine lv_aload_n F.1 F.2.1 dL_law_1394 rfl (lv_at hl 2 rfl) ?_
                                                                                      refine g_I I (run_V (As := []) (rest := []) F I hr_x2 hk_x2 (by decide) kL_177 (ctX8_back hr_x2 hk_x2 h) ⟨rfl, rfl⟩ ⟨Nat.le_of_ble_eq_true rfl, Nat.le_of_ble_eq_true rfl⟩ rfl hl.1 rfl (Nat.le_of_ble_eq_true rfl) ⟨(by show cells + 0 + 0 ≤ 600000; omega), (by show slots + 0 + 0 ≤ 7302250; omega)⟩ dL_law_1395) (fun z354 S H locs I h => ?_)
                                                                                      refine lv_pop F.1 F.2.1 dL_law_1398 rfl ?_
                                                                                      refine lv_goto (tgt := 1425) F.1 F.2.1 dL_law_1399 (by decide) ?_
                                                                                      refine W.widen (k := cells + 2) (n := slots + 99) (by omega) (by omega) ?_
                                                                                      exact hj_1425 M ln S _ _ _ x1 x2 x3 hN hr_x1 hk_x1 hr_x2 hk_x2 h I (lv_sub hl [0, 1, 2, 3] rfl)
                                                                                    · rw [if_neg c39] at h
                                                                                      by_cases c40 : z5 = (40 : Int32)
                                                                                      · rw [if_pos c40] at h
                                                                                        refine lv_tableIn (off := 1369) (tgt := 1402) F.1 F.2.1 dL_law_33 (by rw [c40]; decide) (by rw [c40]; decide) (by rw [c40]; rfl) (by decide) ?_
                                                                                        refine lv_aload_n F.1 F.2.1 dL_law_1402 rfl (lv_at hl 1 rfl) ?_
                                                                                        refine lv_aload_n F.1 F.2.1 dL_law_1403 rfl (lv_at hl 0 rfl) ?_
                                                                                        refine lv_iload_n F.1 F.2.1 dL_law_1404 rfl (lv_at hl 3 rfl) ?_
                                                                                        refine lv_iconst (v := 1) F.1 F.2.1 dL_law_1405 (by decide) ?_
                                                                                        refine r_iadd F dL_law_1406 h (fun z355 h => ?_)
                                                                                        obtain ⟨hin, h⟩ := h
                                                                                        refine va_sld F.1 F.2.1 hX hbl hbA I.S hin dL_law_1407 ?_
                                                                                        obtain ⟨z356, e_z356⟩ : ∃ q, q = xs (Int32.toNatClampNeg z355) := ⟨_, rfl⟩
                                                                                        rw [← e_z356] at h ⊢
                                                                                        refine g_I I (run_V (As := [.int z356]) (rest := []) F I hr_x1 hk_x1 (by decide) kL_178 (ctX7_count hr_x1 hk_x1 h) ⟨rfl, rfl⟩ ⟨Nat.le_of_ble_eq_true rfl, Nat.le_of_ble_eq_true rfl⟩ rfl hl.1 rfl (Nat.le_of_ble_eq_true rfl) ⟨(by show cells + 0 + 0 ≤ 600000; omega), (by show slots + 0 + 0 ≤ 7302250; omega)⟩ dL_law_1408) (fun z357 S H locs I h => ?_)
                                                                                        refine lv_aload_n F.1 F.2.1 dL_law_1411 rfl (lv_at hl 2 rfl) ?_
                                                                                        refine lv_aload_n F.1 F.2.1 dL_law_1412 rfl (lv_at hl 0 rfl) ?_
                                                                                        refine lv_iload_n F.1 F.2.1 dL_law_1413 rfl (lv_at hl 3 rfl) ?_
                                                                                        refine lv_iconst (v := 1) F.1 F.2.1 dL_law_1414 (by decide) ?_
                                                                                        refine r_iadd F dL_law_1415 h (fun z358 h => ?_)
                                                                                        obtain ⟨hin, h⟩ := h
                                                                                        refine va_sld F.1 F.2.1 hX hbl hbA I.S hin dL_law_1416 ?_
                                                                                        obtain ⟨z359, e_z359⟩ : ∃ q, q = xs (Int32.toNatClampNeg z358) := ⟨_, rfl⟩
                                                                                        rw [← e_z359] at h ⊢
                                                                                        refine g_I I (run_V (As := [.int z359]) (rest := [.int z357]) F I hr_x2 hk_x2 (by decide) kL_181 (ctX8_count hr_x2 hk_x2 h) ⟨rfl, rfl⟩ ⟨Nat.le_of_ble_eq_true rfl, Nat.le_of_ble_eq_true rfl⟩ rfl hl.1 rfl (Nat.le_of_ble_eq_true rfl) ⟨(by show cells + 0 + 0 ≤ 600000; omega), (by show slots + 0 + 0 ≤ 7302250; omega)⟩ dL_law_1417) (fun z360 S H locs I h => ?_)
                                                                                        refine r_icmp_eq (tgt := 1425) F dL_law_1420 (by decide) h (fun h => ?_) (fun h => ?_)
                                                                                        · refine W.widen (k := cells + 2) (n := slots + 99) (by omega) (by omega) ?_
                                                                                          exact hj_1425 M ln S _ _ _ x1 x2 x3 hN hr_x1 hk_x1 hr_x2 hk_x2 h I (lv_sub hl [0, 1, 2, 3] rfl)
                                                                                        · exact h.elim
                                                                                      · rw [if_neg c40] at h
                                                                                        have e0 := lv_neT (a := 0) c0 (by decide)
                                                                                        have e1 := lv_neT (a := 1) c1 (by decide)
                                                                                        have e2 := lv_neT (a := 2) c2 (by decide)
                                                                                        have e3 := lv_neT (a := 3) c3 (by decide)
                                                                                        have e4 := lv_neT (a := 4) c4 (by decide)
                                                                                        have e5 := lv_neT (a := 5) c5 (by decide)
                                                                                        have e6 := lv_neT (a := 6) c6 (by decide)
                                                                                        have e7 := lv_neT (a := 7) c7 (by decide)
                                                                                        have e8 := lv_neT (a := 8) c8 (by decide)
                                                                                        have e9 := lv_neT (a := 9) c9 (by decide)
                                                                                        have e10 := lv_neT (a := 10) c10 (by decide)
                                                                                        have e11 := lv_neT (a := 11) c11 (by decide)
                                                                                        have e12 := lv_neT (a := 12) c12 (by decide)
                                                                                        have e13 := lv_neT (a := 13) c13 (by decide)
                                                                                        have e14 := lv_neT (a := 14) c14 (by decide)
                                                                                        have e15 := lv_neT (a := 15) c15 (by decide)
                                                                                        have e16 := lv_neT (a := 16) c16 (by decide)
                                                                                        have e17 := lv_neT (a := 17) c17 (by decide)
                                                                                        have e18 := lv_neT (a := 18) c18 (by decide)
                                                                                        have e19 := lv_neT (a := 19) c19 (by decide)
                                                                                        have e20 := lv_neT (a := 20) c20 (by decide)
                                                                                        have e21 := lv_neT (a := 21) c21 (by decide)
                                                                                        have e22 := lv_neT (a := 22) c22 (by decide)
                                                                                        have e23 := lv_neT (a := 23) c23 (by decide)
                                                                                        have e24 := lv_neT (a := 24) c24 (by decide)
                                                                                        have e25 := lv_neT (a := 25) c25 (by decide)
                                                                                        have e26 := lv_neT (a := 26) c26 (by decide)
                                                                                        have e27 := lv_neT (a := 27) c27 (by decide)
                                                                                        have e28 := lv_neT (a := 28) c28 (by decide)
                                                                                        have e29 := lv_neT (a := 29) c29 (by decide)
                                                                                        have e30 := lv_neT (a := 30) c30 (by decide)
                                                                                        have e31 := lv_neT (a := 31) c31 (by decide)
                                                                                        have e32 := lv_neT (a := 32) c32 (by decide)
                                                                                        have e33 := lv_neT (a := 33) c33 (by decide)
                                                                                        have e34 := lv_neT (a := 34) c34 (by decide)
                                                                                        have e35 := lv_neT (a := 35) c35 (by decide)
                                                                                        have e36 := lv_neT (a := 36) c36 (by decide)
                                                                                        have e37 := lv_neT (a := 37) c37 (by decide)
                                                                                        have e38 := lv_neT (a := 38) c38 (by decide)
                                                                                        have e39 := lv_neT (a := 39) c39 (by decide)
                                                                                        have e40 := lv_neT (a := 40) c40 (by decide)
                                                                                        refine lv_tableOut (tgt := 1425) F.1 F.2.1 dL_law_33 (by omega) (by decide) ?_
                                                                                        refine W.widen (k := cells + 2) (n := slots + 99) (by omega) (by omega) ?_
                                                                                        exact hj_1425 M ln S _ _ _ x1 x2 x3 hN hr_x1 hk_x1 hr_x2 hk_x2 h I (lv_sub hl [0, 1, 2, 3] rfl)
set_option maxHeartbeats 40000000 in
set_option maxRecDepth 100000 in
theorem law_start {p : Program} {e : Env} {s : State} {m : MethodId} {below : List Frame} {meth : Method} {c : Code} {l : Launch} {g : GX} {b L : Nat} {xs : Nat → Int32} (C0 : lw_At p s m meth c b L xs) (F : CallFix p m c code 4 s #[Value.ref b] gtbl RL) (hgz : gz g = s.heap.size) {ln : Nat → Nat} {S : HC} (I : Inv g 0 ln S s s.heap []) (h : wpL_law L xs ln S) : W p l e room_1 s m #[Value.ref b] below meth c s.heap [] 0 0 (lw_Z below #[Value.ref b] s) (entryFrame m ([Value.ref b] : List Value).toArray 4) := by
  have hl_18 := law_loop (below := below) (e := e) (l := l) C0 F hgz
  obtain ⟨hx, hb, hr, hml, hown, hts, hX, hbl, hlocks, hgv⟩ := C0
  have hbA : ¬ gF g b := Nat.not_le.mpr (by rw [hgz]; exact hbl)
  have hl := lv_entry ([.ref b]) (n := 4) (Nat.le_of_ble_eq_true rfl)
  rw [lg_entry_eq]
  generalize (lg_sl ([.ref b]) ++ List.replicate (4 - (lg_sl ([.ref b])).length) Slot.unset).toArray = ls at hl ⊢
  have hl : lv_has ls 4 [(0, .ref b)] := hl
  have hN := Nat.le_refl 0
  unfold wpL_law at h
  refine r_new F I nL_7 h ⟨Nat.le_of_ble_eq_true rfl, Nat.le_of_ble_eq_true rfl⟩ dL_law_0 (fun N361 ln S H hr_0 hk_0 I h => ?_)
  have hN := Nat.le_trans hN (Nat.le_of_lt hr_0)
  refine lv_dup F.1 F.2.1 dL_law_3 rfl ?_
  refine g_XV I (run_I (As := []) (rest := [.ref (gz g + 0)]) F I kL_9 (ctX7_init hr_0 hk_0 h) ⟨rfl, rfl⟩ ⟨Nat.le_of_ble_eq_true rfl, Nat.le_of_ble_eq_true rfl⟩ rfl hl.1 rfl (Nat.le_of_ble_eq_true rfl) ⟨Nat.le_of_ble_eq_true rfl, Nat.le_of_ble_eq_true rfl⟩ dL_law_4) (fun N362 ln S H locs hNN I h => ?_)
  have hr_0 := Nat.lt_of_lt_of_le hr_0 hNN
  have hN := Nat.le_trans hN hNN
  refine lv_astore_n (lv' := [(1, .ref (gz g + 0)), (0, .ref b)]) F.1 F.2.1 dL_law_7 rfl hl (by decide) rfl (fun ls hl => ?_)
  refine r_new F I nL_10 h ⟨Nat.le_of_ble_eq_true rfl, Nat.le_of_ble_eq_true rfl⟩ dL_law_8 (fun N363 ln S H hr_N362 hk_N362 I h => ?_)
  have hr_0 := Nat.lt_of_lt_of_le hr_0 (Nat.le_of_lt hr_N362)
  have hN := Nat.le_trans hN (Nat.le_of_lt hr_N362)
  refine lv_dup F.1 F.2.1 dL_law_11 rfl ?_
  refine g_XV I (run_I (As := []) (rest := [.ref (gz g + N362)]) F I kL_12 (ctX8_init hr_N362 hk_N362 h) ⟨rfl, rfl⟩ ⟨Nat.le_of_ble_eq_true rfl, Nat.le_of_ble_eq_true rfl⟩ rfl hl.1 rfl (Nat.le_of_ble_eq_true rfl) ⟨Nat.le_of_ble_eq_true rfl, Nat.le_of_ble_eq_true rfl⟩ dL_law_12) (fun N364 ln S H locs hNN I h => ?_)
  have hr_0 := Nat.lt_of_lt_of_le hr_0 hNN
  have hr_N362 := Nat.lt_of_lt_of_le hr_N362 hNN
  have hN := Nat.le_trans hN hNN
  refine lv_astore_n (lv' := [(2, .ref (gz g + N362)), (1, .ref (gz g + 0)), (0, .ref b)]) F.1 F.2.1 dL_law_15 rfl hl (by decide) rfl (fun ls hl => ?_)
  refine lv_iconst (v := 0) F.1 F.2.1 dL_law_16 (by decide) ?_
  refine lv_istore_n (lv' := [(3, .int (0 : Int32)), (2, .ref (gz g + N362)), (1, .ref (gz g + 0)), (0, .ref b)]) F.1 F.2.1 dL_law_17 rfl hl (by decide) rfl (fun ls hl => ?_)
  exact hl_18 1000 91 6671 (Nat.le_of_ble_eq_true rfl) (Nat.le_of_ble_eq_true rfl) N364 ln S _ _ _ 0 N362 (0 : Int32) hN hr_0 hk_0 hr_N362 hk_N362 h I (lv_sub hl [3, 2, 1, 0] rfl)
