/-! texts that stand below: rows -/
def mthT (own : String) (idx : Nat) (y : MethodName) (bytes : ByteArray) (mL : Nat) (ret : Option FieldType) (n : Nat) : Prop := mthOK own idx y.cls y bytes mL ret n ∧ Cond.instanceMethod y ∈ gtbl ∧ Cond.selects RJ0 y y ∈ gtbl
section RS
variable {p : Program} {l : Launch} {e : Env} {R : Room} {s : State} {m : MethodId} {args : Array Value} {below : List Frame} {meth : Method} {c : Code} {H : Heap} {locs : List Loc} {cells slots : Nat} {Q : State → Prop}
variable {cc : ByteArray} {pc nL : Nat} {ls : Array Slot} {rest : List Value} {own : String}
variable {g : GX} {N : Nat} {ln : Nat → Nat} {S : HC}
variable {y : MethodName} {bytes : ByteArray} {mL idx n ci mc ms : Nat} {ret : Option FieldType} {rm : Room} {Qc : Array Value → State → Outcome → State → Prop} {As st : List Value}
theorem Inv.str (I : Inv g N ln S s H locs) : vk_S 6 strL strB (gK g) (gV g) (gF g) s s.heap := I.2.2.1.2.1.2.1
theorem r_sval (F : CallFix p m c cc nL s args gtbl own) (I : Inv g N ln S s H locs) {i : Nat} (hi : i < 6) (hw : Cond.fieldLink own idx RJ0 "value" "[B" ∈ gtbl) (hdg : decode cc pc = .ok (.getfield idx, 3)) (kk : W p l e R s m args below meth c H locs cells slots Q (F0 m (pc + 3) ls (.ref (gV g i) :: rest))) : W p l e R s m args below meth c H locs cells slots Q (F0 m pc ls (.ref (gK g i) :: rest)) :=
  vk_getf F.1 F.2.1 (I.str.1 i hi).2.2.1 I.S F.2.2.2.1 (F.2.2.2.2 _ hw) (fun _ h => h) hdg kk
theorem r_scod (F : CallFix p m c cc nL s args gtbl own) (I : Inv g N ln S s H locs) {i : Nat} (hi : i < 6) (hw : Cond.fieldLink own idx RJ0 "coder" "B" ∈ gtbl) (hdg : decode cc pc = .ok (.getfield idx, 3)) (kk : W p l e R s m args below meth c H locs cells slots Q (F0 m (pc + 3) ls (.int 0 :: rest))) : W p l e R s m args below meth c H locs cells slots Q (F0 m pc ls (.ref (gK g i) :: rest)) :=
  vk_getf F.1 F.2.1 (I.str.1 i hi).2.1 I.S F.2.2.2.1 (F.2.2.2.2 _ hw) (fun _ h => h) hdg kk
theorem r_sbyt (F : CallFix p m c cc nL s args gtbl own) (I : Inv g N ln S s H locs) {i : Nat} (hi : i < 6) (hdg : decode cc pc = .ok (.baload, 1)) {j : Int32} {K : Int32 → Prop} (h : al_ (strL.getD i 0) j (fun j => (strB.getD i []).getD j 0) K) (kk : ∀ v, K v → W p l e R s m args below meth c H locs cells slots Q (F0 m (pc + 1) ls (.int v :: rest))) : W p l e R s m args below meth c H locs cells slots Q (F0 m pc ls (.int j :: .ref (gV g i) :: rest)) :=
  va_tb F.1 F.2.1 (I.str.1 i hi).2.2.2 I.S h.1 rfl hdg (kk _ h.2)
theorem r_slen (F : CallFix p m c cc nL s args gtbl own) (I : Inv g N ln S s H locs) {i : Nat} (hi : i < 6) (hdg : decode cc pc = .ok (.arraylength, 1)) {K : Int32 → Prop} (h : lt_ (nI (strL.getD i 0)) K) (kk : ∀ v, K v → W p l e R s m args below meth c H locs cells slots Q (F0 m (pc + 1) ls (.int v :: rest))) : W p l e R s m args below meth c H locs cells slots Q (F0 m pc ls (.ref (gV g i) :: rest)) :=
  va_tlen F.1 F.2.1 (I.str.1 i hi).2.2.2 I.S rfl hdg (kk _ h)
theorem run_T (F : CallFix p m c cc nL s args gtbl own) (I : Inv g N ln S s H locs) {i : Nat} (hi : i < 6) (k : mthT own idx y bytes mL ret n) (hM : Met l y (Cond.code y bytes mL ret :: gtbl) rm (va_Pc (.ref (gK g i) :: As) (AtP g N ln S)) Qc mc ms (gF g)) (hrm : rm.cells = mc ∧ rm.slots = ms) (hR : rm.frames + 1 ≤ R.frames ∧ 8 + (mL + 11) + rm.locals ≤ R.locals) (hn : As.length = n) (hsz : ls.size = nL) (hst : st = As.reverse ++ .ref (gK g i) :: rest) (hroom : (rest.map fun v => v.category).sum ≤ 8) (hcs : cells + mc ≤ R.cells ∧ slots + ms ≤ R.slots) (hdg : decode cc pc = .ok (.invokevirtual idx, 3)) :
    va_Run p l e R s m args below meth c H locs cells slots mc ms (F0 m pc ls st) rest (Qc (Value.ref (gK g i) :: As).toArray) (gF g) := by
  obtain ⟨⟨⟨k1, k2, k3⟩, -, k5⟩, k6, k7⟩ := k
  have hts := F.2.2.2.2
  exact va_runV (C := RJ0) F hM ⟨callB_of n hts (good_in k3) rfl hrm.1 hrm.2 (hts _ k2) (hts _ k1) k5 hR, hts _ k6, hts _ k7⟩ ⟨AtP.blind, vk_recv I.str hi I.S, fun U hU hW => ⟨rfl, I.atP hU hW⟩⟩ rfl hn hsz hst (lv_room hroom) hdg hcs
end RS
theorem bdJ3_checkIndex_8e157_0 : ∀ q ∈ ([(0, .iload_n 0, 1), (1, .ifCond .lt 8, 3), (4, .iload_n 0, 1), (5, .iload_n 1, 1), (6, .if_icmp .lt 10, 3), (9, .aload_n 2, 1), (10, .iload_n 0, 1), (11, .iload_n 1, 1), (12, .invokestatic 95, 3), (16, .iload_n 0, 1), (17, .ireturn, 1)] : List (Nat × Jvm.ClassFile.Instr × Nat)), decode cJ3_checkIndex_8e157 q.1 = .ok q.2 := chk_ok _ 0 _ rfl (by decide +kernel)
theorem dJ3_checkIndex_8e157_0 : decode cJ3_checkIndex_8e157 0 = .ok (.iload_n 0, 1) := bdJ3_checkIndex_8e157_0 (0, .iload_n 0, 1) (List.mem_of_getElem? (i := 0) rfl)
theorem dJ3_checkIndex_8e157_1 : decode cJ3_checkIndex_8e157 1 = .ok (.ifCond .lt 8, 3) := bdJ3_checkIndex_8e157_0 (1, .ifCond .lt 8, 3) (List.mem_of_getElem? (i := 1) rfl)
theorem dJ3_checkIndex_8e157_4 : decode cJ3_checkIndex_8e157 4 = .ok (.iload_n 0, 1) := bdJ3_checkIndex_8e157_0 (4, .iload_n 0, 1) (List.mem_of_getElem? (i := 2) rfl)
theorem dJ3_checkIndex_8e157_5 : decode cJ3_checkIndex_8e157 5 = .ok (.iload_n 1, 1) := bdJ3_checkIndex_8e157_0 (5, .iload_n 1, 1) (List.mem_of_getElem? (i := 3) rfl)
theorem dJ3_checkIndex_8e157_6 : decode cJ3_checkIndex_8e157 6 = .ok (.if_icmp .lt 10, 3) := bdJ3_checkIndex_8e157_0 (6, .if_icmp .lt 10, 3) (List.mem_of_getElem? (i := 4) rfl)
theorem dJ3_checkIndex_8e157_9 : decode cJ3_checkIndex_8e157 9 = .ok (.aload_n 2, 1) := bdJ3_checkIndex_8e157_0 (9, .aload_n 2, 1) (List.mem_of_getElem? (i := 5) rfl)
theorem dJ3_checkIndex_8e157_10 : decode cJ3_checkIndex_8e157 10 = .ok (.iload_n 0, 1) := bdJ3_checkIndex_8e157_0 (10, .iload_n 0, 1) (List.mem_of_getElem? (i := 6) rfl)
theorem dJ3_checkIndex_8e157_11 : decode cJ3_checkIndex_8e157 11 = .ok (.iload_n 1, 1) := bdJ3_checkIndex_8e157_0 (11, .iload_n 1, 1) (List.mem_of_getElem? (i := 7) rfl)
theorem dJ3_checkIndex_8e157_12 : decode cJ3_checkIndex_8e157 12 = .ok (.invokestatic 95, 3) := bdJ3_checkIndex_8e157_0 (12, .invokestatic 95, 3) (List.mem_of_getElem? (i := 8) rfl)
theorem dJ3_checkIndex_8e157_16 : decode cJ3_checkIndex_8e157 16 = .ok (.iload_n 0, 1) := bdJ3_checkIndex_8e157_0 (16, .iload_n 0, 1) (List.mem_of_getElem? (i := 9) rfl)
theorem dJ3_checkIndex_8e157_17 : decode cJ3_checkIndex_8e157 17 = .ok (.ireturn, 1) := bdJ3_checkIndex_8e157_0 (17, .ireturn, 1) (List.mem_of_getElem? (i := 10) rfl)
theorem dJ3_checkIndex_8e157_15 : decode cJ3_checkIndex_8e157 15 = .ok (.athrow, 1) := by decide +kernel
theorem bdJ0_checkIndex_df160_0 : ∀ q ∈ ([(0, .iload_n 0, 1), (1, .iload_n 1, 1), (5, .invokestatic 1059, 3), (8, .pop, 1), (9, .return_, 1)] : List (Nat × Jvm.ClassFile.Instr × Nat)), decode cJ0_checkIndex_df160 q.1 = .ok q.2 := chk_ok _ 0 _ rfl (by decide +kernel)
theorem dJ0_checkIndex_df160_0 : decode cJ0_checkIndex_df160 0 = .ok (.iload_n 0, 1) := bdJ0_checkIndex_df160_0 (0, .iload_n 0, 1) (List.mem_of_getElem? (i := 0) rfl)
theorem dJ0_checkIndex_df160_1 : decode cJ0_checkIndex_df160 1 = .ok (.iload_n 1, 1) := bdJ0_checkIndex_df160_0 (1, .iload_n 1, 1) (List.mem_of_getElem? (i := 1) rfl)
theorem dJ0_checkIndex_df160_5 : decode cJ0_checkIndex_df160 5 = .ok (.invokestatic 1059, 3) := bdJ0_checkIndex_df160_0 (5, .invokestatic 1059, 3) (List.mem_of_getElem? (i := 2) rfl)
theorem dJ0_checkIndex_df160_8 : decode cJ0_checkIndex_df160 8 = .ok (.pop, 1) := bdJ0_checkIndex_df160_0 (8, .pop, 1) (List.mem_of_getElem? (i := 3) rfl)
theorem dJ0_checkIndex_df160_9 : decode cJ0_checkIndex_df160 9 = .ok (.return_, 1) := bdJ0_checkIndex_df160_0 (9, .return_, 1) (List.mem_of_getElem? (i := 4) rfl)
theorem dJ0_checkIndex_df160_2 : decode cJ0_checkIndex_df160 2 = .ok (.getstatic 1053, 3) := by decide +kernel
def wpJ3_checkIndex (S : HC) (a0 a1 : Int32) (post : Int32 → HC → Prop) : Prop := if a0 < 0 then False else if a0 < a1 then post a0 S else False
abbrev rmJ3_checkIndex : Room := { frames := 0, cells := 0, slots := 0, locals := 0 }
theorem ctJ3_checkIndex {l : Launch} {g : GX} {N : Nat} {ln : Nat → Nat} {S : HC} {a0 a1 : Int32} {post : Int32 → HC → Prop} (v : Value) (hv : v = .null ∨ ∃ t, v = .ref t) (h : wpJ3_checkIndex S a0 a1 post) : Met l yJ3_checkIndex_8e157 (Cond.code yJ3_checkIndex_8e157 prog_18_method_11_code 3 (Option.some Jvm.ClassFile.FieldType.int) :: gtbl) rmJ3_checkIndex (va_Pc [.int a0, .int a1, v] (AtP g N ln S)) (QI g N ln post) 0 0 (gF g) := by
  have hc : v.category = 1 := by rcases hv with rfl | ⟨t, rfl⟩ <;> rfl
  refine m_of (by decide) ?_ ?_
  · rcases hv with rfl | ⟨t, rfl⟩ <;> exact Nat.le_of_ble_eq_true rfl
  intro p e s m below meth c ls F hr I hl
  have hl : lv_has ls 3 [(0, .int a0), (1, .int a1)] := by
    rcases hv with rfl | ⟨t, rfl⟩ <;> exact lv_sub hl [0, 1] rfl
  unfold wpJ3_checkIndex at h
  refine lv_iload_n F.1 F.2.1 dJ3_checkIndex_8e157_0 rfl (lv_at hl 0 rfl) ?_
  refine r_if_lt (tgt := 9) F dJ3_checkIndex_8e157_1 (by decide) h (fun h => h.elim) (fun h => ?_)
  refine lv_iload_n F.1 F.2.1 dJ3_checkIndex_8e157_4 rfl (lv_at hl 0 rfl) ?_
  refine lv_iload_n F.1 F.2.1 dJ3_checkIndex_8e157_5 rfl (lv_at hl 1 rfl) ?_
  refine r_icmp_lt (tgt := 16) F dJ3_checkIndex_8e157_6 (by decide) h (fun h => ?_) (fun h => h.elim)
  refine lv_iload_n F.1 F.2.1 dJ3_checkIndex_8e157_16 rfl (lv_at hl 0 rfl) ?_
  exact r_ireturn F I ⟨hr.1, hr.2.1, trivial⟩ h dJ3_checkIndex_8e157_17
theorem kJ0_1059 : mthS RJ0 1059 yJ3_checkIndex_8e157 prog_18_method_11_code 3 (Option.some Jvm.ClassFile.FieldType.int) 3 := ⟨⟨⟨tw_686, tw_73, tw_688⟩, rfl, by decide +kernel⟩, tw_687⟩
def wpJ0_checkIndex_df160 (ln : Nat → Nat) (S : HC) (a0 a1 : Int32) (post : HC → Prop) : Prop := wpJ3_checkIndex S a0 a1 fun _ S => post S
abbrev rmJ0_checkIndex_df160 : Room := { frames := 1, cells := 0, slots := 0, locals := 22 }
theorem ctJ0_checkIndex_df160 {l : Launch} {g : GX} {N : Nat} {ln : Nat → Nat} {S : HC} {a0 a1 : Int32} {post : HC → Prop} (h : wpJ0_checkIndex_df160 ln S a0 a1 post) : Met l yJ0_checkIndex_df160 (Cond.code yJ0_checkIndex_df160 prog_14_method_155_code 2 (Option.none : Option Jvm.ClassFile.FieldType) :: gtbl) rmJ0_checkIndex_df160 (va_Pc [.int a0, .int a1] (AtP g N ln S)) (QV g N ln post) 0 0 (gF g) := by
  refine m_of (by decide) (Nat.le_of_ble_eq_true rfl) ?_
  intro p e s m below meth c ls F hr I hl
  have hl : lv_has ls 2 [(0, .int a0), (1, .int a1)] := hl
  unfold wpJ0_checkIndex_df160 at h
  have key : ∀ v : Value, (v = .null ∨ ∃ t, v = .ref t) → va_Z "jdk/internal/util/Preconditions" "SIOOBE_FORMATTER" "Ljava/util/function/BiFunction;" v (gF g) s s.heap → W p l e rmJ0_checkIndex_df160 s m ([.int a0, .int a1] : List Value).toArray below meth c s.heap [] 0 0 (MQ below (QV g N ln post) ([.int a0, .int a1] : List Value).toArray s 0 0 (gF g)) (F0 m 0 ls []) := by
    intro v hv hz
    refine lv_iload_n F.1 F.2.1 dJ0_checkIndex_df160_0 rfl (lv_at hl 0 rfl) ?_
    refine lv_iload_n F.1 F.2.1 dJ0_checkIndex_df160_1 rfl (lv_at hl 1 rfl) ?_
    refine va_gets F.1 F.2.1 hz I.S F.2.2.2.1 (F.2.2.2.2 _ tw_684) (fun _ h => h) dJ0_checkIndex_df160_2 ?_
    refine g_I I (run_S (As := [.int a0, .int a1, v]) (rest := []) F I kJ0_1059 (ctJ3_checkIndex v hv h) ⟨rfl, rfl⟩ ⟨Nat.le_of_ble_eq_true rfl, Nat.le_of_ble_eq_true rfl⟩ rfl hl.1 rfl (Nat.le_of_ble_eq_true rfl) ⟨Nat.le_of_ble_eq_true rfl, Nat.le_of_ble_eq_true rfl⟩ dJ0_checkIndex_df160_5) (fun z S H locs I h => ?_)
    refine lv_pop F.1 F.2.1 dJ0_checkIndex_df160_8 rfl ?_
    exact r_vreturn F I ⟨hr.1, hr.2.1, trivial⟩ h dJ0_checkIndex_df160_9
  rcases I.2.2.1.2.1.2.2.2 with hz | ⟨t, hz⟩
  · exact key .null (Or.inl rfl) hz
  · exact key (.ref t) (Or.inr ⟨t, rfl⟩) hz
theorem bdJ0_coder_7d493_3 : ∀ q ∈ ([(3, .ifCond .eq 10, 3), (6, .aload_n 0, 1), (7, .getfield 15, 3), (10, .goto 4, 3), (13, .iconst 1, 1), (14, .ireturn, 1)] : List (Nat × Jvm.ClassFile.Instr × Nat)), decode cJ0_coder_7d493 q.1 = .ok q.2 := chk_ok _ 3 _ rfl (by decide +kernel)
theorem dJ0_coder_7d493_3 : decode cJ0_coder_7d493 3 = .ok (.ifCond .eq 10, 3) := bdJ0_coder_7d493_3 (3, .ifCond .eq 10, 3) (List.mem_of_getElem? (i := 0) rfl)
theorem dJ0_coder_7d493_6 : decode cJ0_coder_7d493 6 = .ok (.aload_n 0, 1) := bdJ0_coder_7d493_3 (6, .aload_n 0, 1) (List.mem_of_getElem? (i := 1) rfl)
theorem dJ0_coder_7d493_7 : decode cJ0_coder_7d493 7 = .ok (.getfield 15, 3) := bdJ0_coder_7d493_3 (7, .getfield 15, 3) (List.mem_of_getElem? (i := 2) rfl)
theorem dJ0_coder_7d493_10 : decode cJ0_coder_7d493 10 = .ok (.goto 4, 3) := bdJ0_coder_7d493_3 (10, .goto 4, 3) (List.mem_of_getElem? (i := 3) rfl)
theorem dJ0_coder_7d493_13 : decode cJ0_coder_7d493 13 = .ok (.iconst 1, 1) := bdJ0_coder_7d493_3 (13, .iconst 1, 1) (List.mem_of_getElem? (i := 4) rfl)
theorem dJ0_coder_7d493_14 : decode cJ0_coder_7d493 14 = .ok (.ireturn, 1) := bdJ0_coder_7d493_3 (14, .ireturn, 1) (List.mem_of_getElem? (i := 5) rfl)
theorem dJ0_coder_7d493_0 : decode cJ0_coder_7d493 0 = .ok (.getstatic 38, 3) := by decide +kernel
def wpJ0_coder_7d493 (ln : Nat → Nat) (S : HC) (a0 : Nat) (post : Int32 → HC → Prop) : Prop := if (1 : Int32) = 0 then (rb_ .byte (1 : Int32) (post (1 : Int32) S)) else (rb_ .byte (0 : Int32) (post (0 : Int32) S))
abbrev rmJ0_coder_7d493 : Room := { frames := 0, cells := 0, slots := 0, locals := 0 }
set_option maxHeartbeats 4000000 in
set_option maxRecDepth 100000 in
theorem ctJ0_coder_7d493 {l : Launch} {g : GX} {N : Nat} {ln : Nat → Nat} {S : HC} {a0 : Nat} {post : Int32 → HC → Prop} (hs_a0 : a0 < 6) (h : wpJ0_coder_7d493 ln S a0 post) : Met l yJ0_coder_7d493 (Cond.code yJ0_coder_7d493 prog_14_method_152_code 1 (Option.some Jvm.ClassFile.FieldType.byte) :: gtbl) rmJ0_coder_7d493 (va_Pc [.ref (gK g a0)] (AtP g N ln S)) (QI g N ln post) 0 0 (gF g) := by
  refine m_of (by decide) (Nat.le_of_ble_eq_true rfl) ?_
  intro p e s m below meth c ls F hr I hl
  have hl : lv_has ls 1 [(0, .ref (gK g a0))] := hl
  unfold wpJ0_coder_7d493 at h
  refine va_gets F.1 F.2.1 I.2.2.1.2.1.2.2.1 I.S F.2.2.2.1 (F.2.2.2.2 _ tw_668) (fun _ h => h) dJ0_coder_7d493_0 ?_
  refine r_if_eq (tgt := 13) F dJ0_coder_7d493_3 (by decide) h (fun h => ?_) (fun h => ?_)
  · refine lv_iconst (v := 1) F.1 F.2.1 dJ0_coder_7d493_13 (by decide) ?_
    exact r_zreturn F I ⟨hr.1, hr.2.1, trivial⟩ h dJ0_coder_7d493_14
  · refine lv_aload_n F.1 F.2.1 dJ0_coder_7d493_6 rfl (lv_at hl 0 rfl) ?_
    refine r_scod F I hs_a0 tw_1396 dJ0_coder_7d493_7 ?_
    refine lv_goto (tgt := 14) F.1 F.2.1 dJ0_coder_7d493_10 (by decide) ?_
    exact r_zreturn F I ⟨hr.1, hr.2.1, trivial⟩ h dJ0_coder_7d493_14
theorem bdJ0_isLatin1_aae02_3 : ∀ q ∈ ([(3, .ifCond .eq 14, 3), (6, .aload_n 0, 1), (7, .getfield 15, 3), (10, .ifCond .ne 7, 3), (13, .iconst 1, 1), (14, .goto 4, 3), (17, .iconst 0, 1), (18, .ireturn, 1)] : List (Nat × Jvm.ClassFile.Instr × Nat)), decode cJ0_isLatin1_aae02 q.1 = .ok q.2 := chk_ok _ 3 _ rfl (by decide +kernel)
theorem dJ0_isLatin1_aae02_3 : decode cJ0_isLatin1_aae02 3 = .ok (.ifCond .eq 14, 3) := bdJ0_isLatin1_aae02_3 (3, .ifCond .eq 14, 3) (List.mem_of_getElem? (i := 0) rfl)
theorem dJ0_isLatin1_aae02_6 : decode cJ0_isLatin1_aae02 6 = .ok (.aload_n 0, 1) := bdJ0_isLatin1_aae02_3 (6, .aload_n 0, 1) (List.mem_of_getElem? (i := 1) rfl)
theorem dJ0_isLatin1_aae02_7 : decode cJ0_isLatin1_aae02 7 = .ok (.getfield 15, 3) := bdJ0_isLatin1_aae02_3 (7, .getfield 15, 3) (List.mem_of_getElem? (i := 2) rfl)
theorem dJ0_isLatin1_aae02_10 : decode cJ0_isLatin1_aae02 10 = .ok (.ifCond .ne 7, 3) := bdJ0_isLatin1_aae02_3 (10, .ifCond .ne 7, 3) (List.mem_of_getElem? (i := 3) rfl)
theorem dJ0_isLatin1_aae02_13 : decode cJ0_isLatin1_aae02 13 = .ok (.iconst 1, 1) := bdJ0_isLatin1_aae02_3 (13, .iconst 1, 1) (List.mem_of_getElem? (i := 4) rfl)
theorem dJ0_isLatin1_aae02_14 : decode cJ0_isLatin1_aae02 14 = .ok (.goto 4, 3) := bdJ0_isLatin1_aae02_3 (14, .goto 4, 3) (List.mem_of_getElem? (i := 5) rfl)
theorem dJ0_isLatin1_aae02_17 : decode cJ0_isLatin1_aae02 17 = .ok (.iconst 0, 1) := bdJ0_isLatin1_aae02_3 (17, .iconst 0, 1) (List.mem_of_getElem? (i := 6) rfl)
theorem dJ0_isLatin1_aae02_18 : decode cJ0_isLatin1_aae02 18 = .ok (.ireturn, 1) := bdJ0_isLatin1_aae02_3 (18, .ireturn, 1) (List.mem_of_getElem? (i := 7) rfl)
theorem dJ0_isLatin1_aae02_0 : decode cJ0_isLatin1_aae02 0 = .ok (.getstatic 38, 3) := by decide +kernel
def BJ0_isLatin1_aae02_17 (ln : Nat → Nat) (post : Int32 → HC → Prop) (S : HC)  : Prop := rb_ .boolean (0 : Int32) (post (0 : Int32) S)
def wpJ0_isLatin1_aae02 (ln : Nat → Nat) (S : HC) (a0 : Nat) (post : Int32 → HC → Prop) : Prop := if (1 : Int32) = 0 then (BJ0_isLatin1_aae02_17 ln post S) else (if (0 : Int32) = 0 then (rb_ .boolean (1 : Int32) (post (1 : Int32) S)) else (BJ0_isLatin1_aae02_17 ln post S))
abbrev rmJ0_isLatin1_aae02 : Room := { frames := 0, cells := 0, slots := 0, locals := 0 }
set_option maxHeartbeats 4000000 in
set_option maxRecDepth 100000 in
theorem ctJ0_isLatin1_aae02 {l : Launch} {g : GX} {N : Nat} {ln : Nat → Nat} {S : HC} {a0 : Nat} {post : Int32 → HC → Prop} (hs_a0 : a0 < 6) (h : wpJ0_isLatin1_aae02 ln S a0 post) : Met l yJ0_isLatin1_aae02 (Cond.code yJ0_isLatin1_aae02 prog_14_method_154_code 1 (Option.some Jvm.ClassFile.FieldType.boolean) :: gtbl) rmJ0_isLatin1_aae02 (va_Pc [.ref (gK g a0)] (AtP g N ln S)) (QI g N ln post) 0 0 (gF g) := by
  refine m_of (by decide) (Nat.le_of_ble_eq_true rfl) ?_
  intro p e s m below meth c ls F hr I hl
  have hl : lv_has ls 1 [(0, .ref (gK g a0))] := hl
  unfold wpJ0_isLatin1_aae02 at h
  have hj_17 : ∀ (S : HC) (H : Heap) (locs : List Loc) (ls : Array Slot), BJ0_isLatin1_aae02_17 ln post S  → Inv g N ln S s H locs → lv_has ls 1 [] → W p l e rmJ0_isLatin1_aae02 s m ([.ref (gK g a0)] : List Value).toArray below meth c H locs 0 0 (MQ below (QI g N ln post) ([.ref (gK g a0)] : List Value).toArray s 0 0 (gF g)) (F0 m 17 ls []) := by
    intro S H locs ls h I hl
    unfold BJ0_isLatin1_aae02_17 at h
    refine lv_iconst (v := 0) F.1 F.2.1 dJ0_isLatin1_aae02_17 (by decide) ?_
    exact r_zreturn F I ⟨hr.1, hr.2.1, trivial⟩ h dJ0_isLatin1_aae02_18
  refine va_gets F.1 F.2.1 I.2.2.1.2.1.2.2.1 I.S F.2.2.2.1 (F.2.2.2.2 _ tw_668) (fun _ h => h) dJ0_isLatin1_aae02_0 ?_
  refine r_if_eq (tgt := 17) F dJ0_isLatin1_aae02_3 (by decide) h (fun h => ?_) (fun h => ?_)
  · exact hj_17 S _ _ _   h I (lv_sub hl [] rfl)
  · refine lv_aload_n F.1 F.2.1 dJ0_isLatin1_aae02_6 rfl (lv_at hl 0 rfl) ?_
    refine r_scod F I hs_a0 tw_1396 dJ0_isLatin1_aae02_7 ?_
    refine r_if_ne (tgt := 17) F dJ0_isLatin1_aae02_10 (by decide) h (fun h => ?_) (fun h => ?_)
    · exact hj_17 S _ _ _   h I (lv_sub hl [] rfl)
    · refine lv_iconst (v := 1) F.1 F.2.1 dJ0_isLatin1_aae02_13 (by decide) ?_
      refine lv_goto (tgt := 18) F.1 F.2.1 dJ0_isLatin1_aae02_14 (by decide) ?_
      exact r_zreturn F I ⟨hr.1, hr.2.1, trivial⟩ h dJ0_isLatin1_aae02_18
theorem bdJ0_length_8abf5_0 : ∀ q ∈ ([(0, .aload_n 0, 1), (1, .getfield 9, 3), (5, .aload_n 0, 1), (6, .invokevirtual 335, 3), (10, .ireturn, 1)] : List (Nat × Jvm.ClassFile.Instr × Nat)), decode cJ0_length_8abf5 q.1 = .ok q.2 := chk_ok _ 0 _ rfl (by decide +kernel)
theorem dJ0_length_8abf5_0 : decode cJ0_length_8abf5 0 = .ok (.aload_n 0, 1) := bdJ0_length_8abf5_0 (0, .aload_n 0, 1) (List.mem_of_getElem? (i := 0) rfl)
theorem dJ0_length_8abf5_1 : decode cJ0_length_8abf5 1 = .ok (.getfield 9, 3) := bdJ0_length_8abf5_0 (1, .getfield 9, 3) (List.mem_of_getElem? (i := 1) rfl)
theorem dJ0_length_8abf5_5 : decode cJ0_length_8abf5 5 = .ok (.aload_n 0, 1) := bdJ0_length_8abf5_0 (5, .aload_n 0, 1) (List.mem_of_getElem? (i := 2) rfl)
theorem dJ0_length_8abf5_6 : decode cJ0_length_8abf5 6 = .ok (.invokevirtual 335, 3) := bdJ0_length_8abf5_0 (6, .invokevirtual 335, 3) (List.mem_of_getElem? (i := 3) rfl)
theorem dJ0_length_8abf5_10 : decode cJ0_length_8abf5 10 = .ok (.ireturn, 1) := bdJ0_length_8abf5_0 (10, .ireturn, 1) (List.mem_of_getElem? (i := 4) rfl)
theorem dJ0_length_8abf5_4 : decode cJ0_length_8abf5 4 = .ok (.arraylength, 1) := by decide +kernel
theorem dJ0_length_8abf5_9 : decode cJ0_length_8abf5 9 = .ok (.ishr, 1) := by decide +kernel
theorem kJ0_335 : mthT RJ0 335 yJ0_coder_7d493 prog_14_method_152_code 1 (Option.some Jvm.ClassFile.FieldType.byte) 0 := ⟨⟨⟨tw_664, tw_71, tw_667⟩, rfl, by decide +kernel⟩, tw_665, tw_666⟩
def wpJ0_length_8abf5 (ln : Nat → Nat) (S : HC) (a0 : Nat) (post : Int32 → HC → Prop) : Prop := lt_ (nI (strL.getD a0 0)) fun z1 => wpJ0_coder_7d493 ln S a0 fun z2 S => lt_ (z1 >>> (z2 &&& 31)) fun z3 => post z3 S
abbrev rmJ0_length_8abf5 : Room := { frames := 1, cells := 0, slots := 0, locals := 20 }
set_option maxHeartbeats 4000000 in
set_option maxRecDepth 100000 in
theorem ctJ0_length_8abf5 {l : Launch} {g : GX} {N : Nat} {ln : Nat → Nat} {S : HC} {a0 : Nat} {post : Int32 → HC → Prop} (hs_a0 : a0 < 6) (h : wpJ0_length_8abf5 ln S a0 post) : Met l yJ0_length_8abf5 (Cond.code yJ0_length_8abf5 prog_14_method_54_code 1 (Option.some Jvm.ClassFile.FieldType.int) :: gtbl) rmJ0_length_8abf5 (va_Pc [.ref (gK g a0)] (AtP g N ln S)) (QI g N ln post) 0 0 (gF g) := by
  refine m_of (by decide) (Nat.le_of_ble_eq_true rfl) ?_
  intro p e s m below meth c ls F hr I hl
  have hl : lv_has ls 1 [(0, .ref (gK g a0))] := hl
  unfold wpJ0_length_8abf5 at h
  refine lv_aload_n F.1 F.2.1 dJ0_length_8abf5_0 rfl (lv_at hl 0 rfl) ?_
  refine r_sval F I hs_a0 tw_1395 dJ0_length_8abf5_1 ?_
  refine r_slen F I hs_a0 dJ0_length_8abf5_4 h (fun z1 h => ?_)
  refine lv_aload_n F.1 F.2.1 dJ0_length_8abf5_5 rfl (lv_at hl 0 rfl) ?_
  refine g_I I (run_T (As := []) (rest := [.int z1]) F I hs_a0 kJ0_335 (ctJ0_coder_7d493 hs_a0 h) ⟨rfl, rfl⟩ ⟨Nat.le_of_ble_eq_true rfl, Nat.le_of_ble_eq_true rfl⟩ rfl hl.1 rfl (Nat.le_of_ble_eq_true rfl) ⟨Nat.le_of_ble_eq_true rfl, Nat.le_of_ble_eq_true rfl⟩ dJ0_length_8abf5_6) (fun z2 S H locs I h => ?_)
  refine r_ishr F dJ0_length_8abf5_9 h (fun z3 h => ?_)
  exact r_ireturn F I ⟨hr.1, hr.2.1, trivial⟩ h dJ0_length_8abf5_10
theorem bdJ1_charAt_3b067_0 : ∀ q ∈ ([(0, .iload_n 1, 1), (1, .aload_n 0, 1), (3, .invokestatic 9, 3), (6, .aload_n 0, 1), (7, .iload_n 1, 1), (9, .sipush 255, 3), (12, .iand, 1), (14, .ireturn, 1)] : List (Nat × Jvm.ClassFile.Instr × Nat)), decode cJ1_charAt_3b067 q.1 = .ok q.2 := chk_ok _ 0 _ rfl (by decide +kernel)
theorem dJ1_charAt_3b067_0 : decode cJ1_charAt_3b067 0 = .ok (.iload_n 1, 1) := bdJ1_charAt_3b067_0 (0, .iload_n 1, 1) (List.mem_of_getElem? (i := 0) rfl)
theorem dJ1_charAt_3b067_1 : decode cJ1_charAt_3b067 1 = .ok (.aload_n 0, 1) := bdJ1_charAt_3b067_0 (1, .aload_n 0, 1) (List.mem_of_getElem? (i := 1) rfl)
theorem dJ1_charAt_3b067_3 : decode cJ1_charAt_3b067 3 = .ok (.invokestatic 9, 3) := bdJ1_charAt_3b067_0 (3, .invokestatic 9, 3) (List.mem_of_getElem? (i := 2) rfl)
theorem dJ1_charAt_3b067_6 : decode cJ1_charAt_3b067 6 = .ok (.aload_n 0, 1) := bdJ1_charAt_3b067_0 (6, .aload_n 0, 1) (List.mem_of_getElem? (i := 3) rfl)
theorem dJ1_charAt_3b067_7 : decode cJ1_charAt_3b067 7 = .ok (.iload_n 1, 1) := bdJ1_charAt_3b067_0 (7, .iload_n 1, 1) (List.mem_of_getElem? (i := 4) rfl)
theorem dJ1_charAt_3b067_9 : decode cJ1_charAt_3b067 9 = .ok (.sipush 255, 3) := bdJ1_charAt_3b067_0 (9, .sipush 255, 3) (List.mem_of_getElem? (i := 5) rfl)
theorem dJ1_charAt_3b067_12 : decode cJ1_charAt_3b067 12 = .ok (.iand, 1) := bdJ1_charAt_3b067_0 (12, .iand, 1) (List.mem_of_getElem? (i := 6) rfl)
theorem dJ1_charAt_3b067_14 : decode cJ1_charAt_3b067 14 = .ok (.ireturn, 1) := bdJ1_charAt_3b067_0 (14, .ireturn, 1) (List.mem_of_getElem? (i := 7) rfl)
theorem budJ1_charAt_3b067_2 : ∀ q ∈ ([(2, .ok (.arraylength, 1)), (8, .ok (.baload, 1)), (13, .ok (.i2c, 1))] : List (Nat × Except Jvm.ClassFile.DecodeError (Jvm.ClassFile.Instr × Nat))), decode cJ1_charAt_3b067 q.1 = q.2 := by decide +kernel
theorem dJ1_charAt_3b067_2 : decode cJ1_charAt_3b067 2 = .ok (.arraylength, 1) := budJ1_charAt_3b067_2 (2, .ok (.arraylength, 1)) (List.mem_of_getElem? (i := 0) rfl)
theorem dJ1_charAt_3b067_8 : decode cJ1_charAt_3b067 8 = .ok (.baload, 1) := budJ1_charAt_3b067_2 (8, .ok (.baload, 1)) (List.mem_of_getElem? (i := 1) rfl)
theorem dJ1_charAt_3b067_13 : decode cJ1_charAt_3b067 13 = .ok (.i2c, 1) := budJ1_charAt_3b067_2 (13, .ok (.i2c, 1)) (List.mem_of_getElem? (i := 2) rfl)
theorem kJ1_9 : mthS RJ1 9 yJ0_checkIndex_df160 prog_14_method_155_code 2 (Option.none : Option Jvm.ClassFile.FieldType) 2 := ⟨⟨⟨tw_681, tw_71, tw_683⟩, rfl, by decide +kernel⟩, tw_682⟩
def wpJ1_charAt_3b067 (ln : Nat → Nat) (S : HC) (a0 : Nat) (a1 : Int32) (post : Int32 → HC → Prop) : Prop := lt_ (nI (strL.getD a0 0)) fun z1 => wpJ0_checkIndex_df160 ln S a1 z1 fun S => al_ (strL.getD a0 0) a1 (fun j => (strB.getD a0 []).getD j 0) fun z2 => lt_ (z2 &&& (255 : Int32)) fun z3 => lt_ ((z3.toUInt32 % 65536).toInt32) fun z4 => rb_ .char z4 (post z4 S)
abbrev rmJ1_charAt_3b067 : Room := { frames := 2, cells := 0, slots := 0, locals := 43 }
set_option maxHeartbeats 4000000 in
set_option maxRecDepth 100000 in
theorem ctJ1_charAt_3b067 {l : Launch} {g : GX} {N : Nat} {ln : Nat → Nat} {S : HC} {a0 : Nat} {a1 : Int32} {post : Int32 → HC → Prop} (hs_a0 : a0 < 6) (h : wpJ1_charAt_3b067 ln S a0 a1 post) : Met l yJ1_charAt_3b067 (Cond.code yJ1_charAt_3b067 prog_15_method_2_code 2 (Option.some Jvm.ClassFile.FieldType.char) :: gtbl) rmJ1_charAt_3b067 (va_Pc [.ref (gV g a0), .int a1] (AtP g N ln S)) (QI g N ln post) 0 0 (gF g) := by
  refine m_of (by decide) (Nat.le_of_ble_eq_true rfl) ?_
  intro p e s m below meth c ls F hr I hl
  have hl : lv_has ls 2 [(0, .ref (gV g a0)), (1, .int a1)] := hl
  unfold wpJ1_charAt_3b067 at h
  refine lv_iload_n F.1 F.2.1 dJ1_charAt_3b067_0 rfl (lv_at hl 1 rfl) ?_
  refine lv_aload_n F.1 F.2.1 dJ1_charAt_3b067_1 rfl (lv_at hl 0 rfl) ?_
  refine r_slen F I hs_a0 dJ1_charAt_3b067_2 h (fun z1 h => ?_)
  refine g_V I (run_S (As := [.int a1, .int z1]) (rest := []) F I kJ1_9 (ctJ0_checkIndex_df160 h) ⟨rfl, rfl⟩ ⟨Nat.le_of_ble_eq_true rfl, Nat.le_of_ble_eq_true rfl⟩ rfl hl.1 rfl (Nat.le_of_ble_eq_true rfl) ⟨Nat.le_of_ble_eq_true rfl, Nat.le_of_ble_eq_true rfl⟩ dJ1_charAt_3b067_3) (fun S H locs I h => ?_)
  refine lv_aload_n F.1 F.2.1 dJ1_charAt_3b067_6 rfl (lv_at hl 0 rfl) ?_
  refine lv_iload_n F.1 F.2.1 dJ1_charAt_3b067_7 rfl (lv_at hl 1 rfl) ?_
  refine r_sbyt F I hs_a0 dJ1_charAt_3b067_8 h (fun z2 h => ?_)
  refine lv_sipush (v := 255) F.1 F.2.1 dJ1_charAt_3b067_9 (by decide) ?_
  refine r_iand F dJ1_charAt_3b067_12 h (fun z3 h => ?_)
  refine r_i2c F dJ1_charAt_3b067_13 h (fun z4 h => ?_)
  exact r_zreturn F I ⟨hr.1, hr.2.1, trivial⟩ h dJ1_charAt_3b067_14
theorem bdJ0_charAt_5068e_0 : ∀ q ∈ ([(0, .aload_n 0, 1), (1, .invokevirtual 492, 3), (4, .ifCond .eq 12, 3), (7, .aload_n 0, 1), (8, .getfield 9, 3), (11, .iload_n 1, 1), (12, .invokestatic 495, 3), (15, .ireturn, 1), (16, .aload_n 0, 1), (17, .getfield 9, 3), (20, .iload_n 1, 1), (21, .invokestatic 498, 3), (24, .ireturn, 1)] : List (Nat × Jvm.ClassFile.Instr × Nat)), decode cJ0_charAt_5068e q.1 = .ok q.2 := chk_ok _ 0 _ rfl (by decide +kernel)
theorem dJ0_charAt_5068e_0 : decode cJ0_charAt_5068e 0 = .ok (.aload_n 0, 1) := bdJ0_charAt_5068e_0 (0, .aload_n 0, 1) (List.mem_of_getElem? (i := 0) rfl)
theorem dJ0_charAt_5068e_1 : decode cJ0_charAt_5068e 1 = .ok (.invokevirtual 492, 3) := bdJ0_charAt_5068e_0 (1, .invokevirtual 492, 3) (List.mem_of_getElem? (i := 1) rfl)
theorem dJ0_charAt_5068e_4 : decode cJ0_charAt_5068e 4 = .ok (.ifCond .eq 12, 3) := bdJ0_charAt_5068e_0 (4, .ifCond .eq 12, 3) (List.mem_of_getElem? (i := 2) rfl)
theorem dJ0_charAt_5068e_7 : decode cJ0_charAt_5068e 7 = .ok (.aload_n 0, 1) := bdJ0_charAt_5068e_0 (7, .aload_n 0, 1) (List.mem_of_getElem? (i := 3) rfl)
theorem dJ0_charAt_5068e_8 : decode cJ0_charAt_5068e 8 = .ok (.getfield 9, 3) := bdJ0_charAt_5068e_0 (8, .getfield 9, 3) (List.mem_of_getElem? (i := 4) rfl)
theorem dJ0_charAt_5068e_11 : decode cJ0_charAt_5068e 11 = .ok (.iload_n 1, 1) := bdJ0_charAt_5068e_0 (11, .iload_n 1, 1) (List.mem_of_getElem? (i := 5) rfl)
theorem dJ0_charAt_5068e_12 : decode cJ0_charAt_5068e 12 = .ok (.invokestatic 495, 3) := bdJ0_charAt_5068e_0 (12, .invokestatic 495, 3) (List.mem_of_getElem? (i := 6) rfl)
theorem dJ0_charAt_5068e_15 : decode cJ0_charAt_5068e 15 = .ok (.ireturn, 1) := bdJ0_charAt_5068e_0 (15, .ireturn, 1) (List.mem_of_getElem? (i := 7) rfl)
theorem dJ0_charAt_5068e_16 : decode cJ0_charAt_5068e 16 = .ok (.aload_n 0, 1) := bdJ0_charAt_5068e_0 (16, .aload_n 0, 1) (List.mem_of_getElem? (i := 8) rfl)
theorem dJ0_charAt_5068e_17 : decode cJ0_charAt_5068e 17 = .ok (.getfield 9, 3) := bdJ0_charAt_5068e_0 (17, .getfield 9, 3) (List.mem_of_getElem? (i := 9) rfl)
theorem dJ0_charAt_5068e_20 : decode cJ0_charAt_5068e 20 = .ok (.iload_n 1, 1) := bdJ0_charAt_5068e_0 (20, .iload_n 1, 1) (List.mem_of_getElem? (i := 10) rfl)
theorem dJ0_charAt_5068e_21 : decode cJ0_charAt_5068e 21 = .ok (.invokestatic 498, 3) := bdJ0_charAt_5068e_0 (21, .invokestatic 498, 3) (List.mem_of_getElem? (i := 11) rfl)
theorem dJ0_charAt_5068e_24 : decode cJ0_charAt_5068e 24 = .ok (.ireturn, 1) := bdJ0_charAt_5068e_0 (24, .ireturn, 1) (List.mem_of_getElem? (i := 12) rfl)
theorem kJ0_492 : mthT RJ0 492 yJ0_isLatin1_aae02 prog_14_method_154_code 1 (Option.some Jvm.ClassFile.FieldType.boolean) 0 := ⟨⟨⟨tw_674, tw_71, tw_677⟩, rfl, by decide +kernel⟩, tw_675, tw_676⟩
theorem kJ0_495 : mthS RJ0 495 yJ1_charAt_3b067 prog_15_method_2_code 2 (Option.some Jvm.ClassFile.FieldType.char) 2 := ⟨⟨⟨tw_678, tw_72, tw_680⟩, rfl, by decide +kernel⟩, tw_679⟩
def wpJ0_charAt_5068e (ln : Nat → Nat) (S : HC) (a0 : Nat) (a1 : Int32) (post : Int32 → HC → Prop) : Prop := wpJ0_isLatin1_aae02 ln S a0 fun z1 S => if z1 = 0 then (False) else (wpJ1_charAt_3b067 ln S a0 a1 fun z2 S => rb_ .char z2 (post z2 S))
abbrev rmJ0_charAt_5068e : Room := { frames := 3, cells := 0, slots := 0, locals := 64 }
set_option maxHeartbeats 4000000 in
set_option maxRecDepth 100000 in
theorem ctJ0_charAt_5068e {l : Launch} {g : GX} {N : Nat} {ln : Nat → Nat} {S : HC} {a0 : Nat} {a1 : Int32} {post : Int32 → HC → Prop} (hs_a0 : a0 < 6) (h : wpJ0_charAt_5068e ln S a0 a1 post) : Met l yJ0_charAt_5068e (Cond.code yJ0_charAt_5068e prog_14_method_56_code 2 (Option.some Jvm.ClassFile.FieldType.char) :: gtbl) rmJ0_charAt_5068e (va_Pc [.ref (gK g a0), .int a1] (AtP g N ln S)) (QI g N ln post) 0 0 (gF g) := by
  refine m_of (by decide) (Nat.le_of_ble_eq_true rfl) ?_
  intro p e s m below meth c ls F hr I hl
  have hl : lv_has ls 2 [(0, .ref (gK g a0)), (1, .int a1)] := hl
  unfold wpJ0_charAt_5068e at h
  refine lv_aload_n F.1 F.2.1 dJ0_charAt_5068e_0 rfl (lv_at hl 0 rfl) ?_
  refine g_I I (run_T (As := []) (rest := []) F I hs_a0 kJ0_492 (ctJ0_isLatin1_aae02 hs_a0 h) ⟨rfl, rfl⟩ ⟨Nat.le_of_ble_eq_true rfl, Nat.le_of_ble_eq_true rfl⟩ rfl hl.1 rfl (Nat.le_of_ble_eq_true rfl) ⟨Nat.le_of_ble_eq_true rfl, Nat.le_of_ble_eq_true rfl⟩ dJ0_charAt_5068e_1) (fun z1 S H locs I h => ?_)
  refine r_if_eq (tgt := 16) F dJ0_charAt_5068e_4 (by decide) h (fun h => ?_) (fun h => ?_)
  · exact h.elim
  · refine lv_aload_n F.1 F.2.1 dJ0_charAt_5068e_7 rfl (lv_at hl 0 rfl) ?_
    refine r_sval F I hs_a0 tw_1395 dJ0_charAt_5068e_8 ?_
    refine lv_iload_n F.1 F.2.1 dJ0_charAt_5068e_11 rfl (lv_at hl 1 rfl) ?_
    refine g_I I (run_S (As := [.ref (gV g a0), .int a1]) (rest := []) F I kJ0_495 (ctJ1_charAt_3b067 hs_a0 h) ⟨rfl, rfl⟩ ⟨Nat.le_of_ble_eq_true rfl, Nat.le_of_ble_eq_true rfl⟩ rfl hl.1 rfl (Nat.le_of_ble_eq_true rfl) ⟨Nat.le_of_ble_eq_true rfl, Nat.le_of_ble_eq_true rfl⟩ dJ0_charAt_5068e_12) (fun z2 S H locs I h => ?_)
    exact r_zreturn F I ⟨hr.1, hr.2.1, trivial⟩ h dJ0_charAt_5068e_15
theorem bdJ1_canEncode_9a6ad_0 : ∀ q ∈ ([(0, .iload_n 0, 1), (1, .ifCond .lt 14, 3), (4, .iload_n 0, 1), (5, .sipush 255, 3), (8, .if_icmp .gt 7, 3), (11, .iconst 1, 1), (12, .goto 4, 3), (15, .iconst 0, 1), (16, .ireturn, 1)] : List (Nat × Jvm.ClassFile.Instr × Nat)), decode cJ1_canEncode_9a6ad q.1 = .ok q.2 := chk_ok _ 0 _ rfl (by decide +kernel)
theorem dJ1_canEncode_9a6ad_0 : decode cJ1_canEncode_9a6ad 0 = .ok (.iload_n 0, 1) := bdJ1_canEncode_9a6ad_0 (0, .iload_n 0, 1) (List.mem_of_getElem? (i := 0) rfl)
theorem dJ1_canEncode_9a6ad_1 : decode cJ1_canEncode_9a6ad 1 = .ok (.ifCond .lt 14, 3) := bdJ1_canEncode_9a6ad_0 (1, .ifCond .lt 14, 3) (List.mem_of_getElem? (i := 1) rfl)
theorem dJ1_canEncode_9a6ad_4 : decode cJ1_canEncode_9a6ad 4 = .ok (.iload_n 0, 1) := bdJ1_canEncode_9a6ad_0 (4, .iload_n 0, 1) (List.mem_of_getElem? (i := 2) rfl)
theorem dJ1_canEncode_9a6ad_5 : decode cJ1_canEncode_9a6ad 5 = .ok (.sipush 255, 3) := bdJ1_canEncode_9a6ad_0 (5, .sipush 255, 3) (List.mem_of_getElem? (i := 3) rfl)
theorem dJ1_canEncode_9a6ad_8 : decode cJ1_canEncode_9a6ad 8 = .ok (.if_icmp .gt 7, 3) := bdJ1_canEncode_9a6ad_0 (8, .if_icmp .gt 7, 3) (List.mem_of_getElem? (i := 4) rfl)
theorem dJ1_canEncode_9a6ad_11 : decode cJ1_canEncode_9a6ad 11 = .ok (.iconst 1, 1) := bdJ1_canEncode_9a6ad_0 (11, .iconst 1, 1) (List.mem_of_getElem? (i := 5) rfl)
theorem dJ1_canEncode_9a6ad_12 : decode cJ1_canEncode_9a6ad 12 = .ok (.goto 4, 3) := bdJ1_canEncode_9a6ad_0 (12, .goto 4, 3) (List.mem_of_getElem? (i := 6) rfl)
theorem dJ1_canEncode_9a6ad_15 : decode cJ1_canEncode_9a6ad 15 = .ok (.iconst 0, 1) := bdJ1_canEncode_9a6ad_0 (15, .iconst 0, 1) (List.mem_of_getElem? (i := 7) rfl)
theorem dJ1_canEncode_9a6ad_16 : decode cJ1_canEncode_9a6ad 16 = .ok (.ireturn, 1) := bdJ1_canEncode_9a6ad_0 (16, .ireturn, 1) (List.mem_of_getElem? (i := 8) rfl)
def BJ1_canEncode_9a6ad_15 (ln : Nat → Nat) (post : Int32 → HC → Prop) (S : HC)  : Prop := rb_ .boolean (0 : Int32) (post (0 : Int32) S)
def wpJ1_canEncode_9a6ad (ln : Nat → Nat) (S : HC) (a0 : Int32) (post : Int32 → HC → Prop) : Prop := if a0 < 0 then (BJ1_canEncode_9a6ad_15 ln post S) else (if (255 : Int32) < a0 then (BJ1_canEncode_9a6ad_15 ln post S) else (rb_ .boolean (1 : Int32) (post (1 : Int32) S)))
abbrev rmJ1_canEncode_9a6ad : Room := { frames := 0, cells := 0, slots := 0, locals := 0 }
set_option maxHeartbeats 4000000 in
set_option maxRecDepth 100000 in
theorem ctJ1_canEncode_9a6ad {l : Launch} {g : GX} {N : Nat} {ln : Nat → Nat} {S : HC} {a0 : Int32} {post : Int32 → HC → Prop} (h : wpJ1_canEncode_9a6ad ln S a0 post) : Met l yJ1_canEncode_9a6ad (Cond.code yJ1_canEncode_9a6ad prog_15_method_4_code 1 (Option.some Jvm.ClassFile.FieldType.boolean) :: gtbl) rmJ1_canEncode_9a6ad (va_Pc [.int a0] (AtP g N ln S)) (QI g N ln post) 0 0 (gF g) := by
  refine m_of (by decide) (Nat.le_of_ble_eq_true rfl) ?_
  intro p e s m below meth c ls F hr I hl
  have hl : lv_has ls 1 [(0, .int a0)] := hl
  unfold wpJ1_canEncode_9a6ad at h
  have hj_15 : ∀ (S : HC) (H : Heap) (locs : List Loc) (ls : Array Slot), BJ1_canEncode_9a6ad_15 ln post S  → Inv g N ln S s H locs → lv_has ls 1 [] → W p l e rmJ1_canEncode_9a6ad s m ([.int a0] : List Value).toArray below meth c H locs 0 0 (MQ below (QI g N ln post) ([.int a0] : List Value).toArray s 0 0 (gF g)) (F0 m 15 ls []) := by
    intro S H locs ls h I hl
    unfold BJ1_canEncode_9a6ad_15 at h
    refine lv_iconst (v := 0) F.1 F.2.1 dJ1_canEncode_9a6ad_15 (by decide) ?_
    exact r_zreturn F I ⟨hr.1, hr.2.1, trivial⟩ h dJ1_canEncode_9a6ad_16
  refine lv_iload_n F.1 F.2.1 dJ1_canEncode_9a6ad_0 rfl (lv_at hl 0 rfl) ?_
  refine r_if_lt (tgt := 15) F dJ1_canEncode_9a6ad_1 (by decide) h (fun h => ?_) (fun h => ?_)
  · exact hj_15 S _ _ _   h I (lv_sub hl [] rfl)
  · refine lv_iload_n F.1 F.2.1 dJ1_canEncode_9a6ad_4 rfl (lv_at hl 0 rfl) ?_
    refine lv_sipush (v := 255) F.1 F.2.1 dJ1_canEncode_9a6ad_5 (by decide) ?_
    refine r_icmp_gt (tgt := 15) F dJ1_canEncode_9a6ad_8 (by decide) h (fun h => ?_) (fun h => ?_)
    · exact hj_15 S _ _ _   h I (lv_sub hl [] rfl)
    · refine lv_iconst (v := 1) F.1 F.2.1 dJ1_canEncode_9a6ad_11 (by decide) ?_
      refine lv_goto (tgt := 16) F.1 F.2.1 dJ1_canEncode_9a6ad_12 (by decide) ?_
      exact r_zreturn F I ⟨hr.1, hr.2.1, trivial⟩ h dJ1_canEncode_9a6ad_16
theorem bdJ1_indexOfChar_4cfef_0 : ∀ q ∈ ([(0, .iload_n 1, 1), (2, .istore 4, 2), (4, .iload_n 2, 1), (5, .istore 5, 2), (7, .iload 5, 2), (9, .iload_n 3, 1), (10, .if_icmp .ge 21, 3), (13, .aload_n 0, 1), (14, .iload 5, 2), (17, .iload 4, 2), (19, .if_icmp .ne 6, 3), (22, .iload 5, 2), (24, .ireturn, 1), (25, .iinc 5 1, 3), (28, .goto (-21), 3), (31, .iconst (-1), 1), (32, .ireturn, 1)] : List (Nat × Jvm.ClassFile.Instr × Nat)), decode cJ1_indexOfChar_4cfef q.1 = .ok q.2 := chk_ok _ 0 _ rfl (by decide +kernel)
theorem dJ1_indexOfChar_4cfef_0 : decode cJ1_indexOfChar_4cfef 0 = .ok (.iload_n 1, 1) := bdJ1_indexOfChar_4cfef_0 (0, .iload_n 1, 1) (List.mem_of_getElem? (i := 0) rfl)
theorem dJ1_indexOfChar_4cfef_2 : decode cJ1_indexOfChar_4cfef 2 = .ok (.istore 4, 2) := bdJ1_indexOfChar_4cfef_0 (2, .istore 4, 2) (List.mem_of_getElem? (i := 1) rfl)
theorem dJ1_indexOfChar_4cfef_4 : decode cJ1_indexOfChar_4cfef 4 = .ok (.iload_n 2, 1) := bdJ1_indexOfChar_4cfef_0 (4, .iload_n 2, 1) (List.mem_of_getElem? (i := 2) rfl)
theorem dJ1_indexOfChar_4cfef_5 : decode cJ1_indexOfChar_4cfef 5 = .ok (.istore 5, 2) := bdJ1_indexOfChar_4cfef_0 (5, .istore 5, 2) (List.mem_of_getElem? (i := 3) rfl)
theorem dJ1_indexOfChar_4cfef_7 : decode cJ1_indexOfChar_4cfef 7 = .ok (.iload 5, 2) := bdJ1_indexOfChar_4cfef_0 (7, .iload 5, 2) (List.mem_of_getElem? (i := 4) rfl)
theorem dJ1_indexOfChar_4cfef_9 : decode cJ1_indexOfChar_4cfef 9 = .ok (.iload_n 3, 1) := bdJ1_indexOfChar_4cfef_0 (9, .iload_n 3, 1) (List.mem_of_getElem? (i := 5) rfl)
theorem dJ1_indexOfChar_4cfef_10 : decode cJ1_indexOfChar_4cfef 10 = .ok (.if_icmp .ge 21, 3) := bdJ1_indexOfChar_4cfef_0 (10, .if_icmp .ge 21, 3) (List.mem_of_getElem? (i := 6) rfl)
theorem dJ1_indexOfChar_4cfef_13 : decode cJ1_indexOfChar_4cfef 13 = .ok (.aload_n 0, 1) := bdJ1_indexOfChar_4cfef_0 (13, .aload_n 0, 1) (List.mem_of_getElem? (i := 7) rfl)
theorem dJ1_indexOfChar_4cfef_14 : decode cJ1_indexOfChar_4cfef 14 = .ok (.iload 5, 2) := bdJ1_indexOfChar_4cfef_0 (14, .iload 5, 2) (List.mem_of_getElem? (i := 8) rfl)
theorem dJ1_indexOfChar_4cfef_17 : decode cJ1_indexOfChar_4cfef 17 = .ok (.iload 4, 2) := bdJ1_indexOfChar_4cfef_0 (17, .iload 4, 2) (List.mem_of_getElem? (i := 9) rfl)
theorem dJ1_indexOfChar_4cfef_19 : decode cJ1_indexOfChar_4cfef 19 = .ok (.if_icmp .ne 6, 3) := bdJ1_indexOfChar_4cfef_0 (19, .if_icmp .ne 6, 3) (List.mem_of_getElem? (i := 10) rfl)
theorem dJ1_indexOfChar_4cfef_22 : decode cJ1_indexOfChar_4cfef 22 = .ok (.iload 5, 2) := bdJ1_indexOfChar_4cfef_0 (22, .iload 5, 2) (List.mem_of_getElem? (i := 11) rfl)
theorem dJ1_indexOfChar_4cfef_24 : decode cJ1_indexOfChar_4cfef 24 = .ok (.ireturn, 1) := bdJ1_indexOfChar_4cfef_0 (24, .ireturn, 1) (List.mem_of_getElem? (i := 12) rfl)
theorem dJ1_indexOfChar_4cfef_25 : decode cJ1_indexOfChar_4cfef 25 = .ok (.iinc 5 1, 3) := bdJ1_indexOfChar_4cfef_0 (25, .iinc 5 1, 3) (List.mem_of_getElem? (i := 13) rfl)
theorem dJ1_indexOfChar_4cfef_28 : decode cJ1_indexOfChar_4cfef 28 = .ok (.goto (-21), 3) := bdJ1_indexOfChar_4cfef_0 (28, .goto (-21), 3) (List.mem_of_getElem? (i := 14) rfl)
theorem dJ1_indexOfChar_4cfef_31 : decode cJ1_indexOfChar_4cfef 31 = .ok (.iconst (-1), 1) := bdJ1_indexOfChar_4cfef_0 (31, .iconst (-1), 1) (List.mem_of_getElem? (i := 15) rfl)
theorem dJ1_indexOfChar_4cfef_32 : decode cJ1_indexOfChar_4cfef 32 = .ok (.ireturn, 1) := bdJ1_indexOfChar_4cfef_0 (32, .ireturn, 1) (List.mem_of_getElem? (i := 16) rfl)
theorem dJ1_indexOfChar_4cfef_1 : decode cJ1_indexOfChar_4cfef 1 = .ok (.i2b, 1) := by decide +kernel
theorem dJ1_indexOfChar_4cfef_16 : decode cJ1_indexOfChar_4cfef 16 = .ok (.baload, 1) := by decide +kernel
def LJ1_indexOfChar_4cfef_7 (ln : Nat → Nat) (post : Int32 → HC → Prop) : Nat → HC → Nat → Int32 → Int32 → Int32 → Prop
  | 0 => fun _ _ _ _ _ => False
  | n7 + 1 => fun S x0 x3 x4 x5 => if x3 ≤ x5 then (post (-1 : Int32) S) else (al_ (strL.getD x0 0) x5 (fun j => (strB.getD x0 []).getD j 0) fun z1 => if z1 = x4 then (post x5 S) else (lt_ (x5 + (1 : Int32)) fun z2 => (LJ1_indexOfChar_4cfef_7 ln post n7) S x0 x3 x4 z2))
def wpJ1_indexOfChar_4cfef (ln : Nat → Nat) (S : HC) (a0 : Nat) (a1 : Int32) (a2 : Int32) (a3 : Int32) (post : Int32 → HC → Prop) : Prop := lt_ (a1.toInt8.toInt32) fun z3 => ∃ n7, LJ1_indexOfChar_4cfef_7 ln post n7 S a0 a3 z3 a2
abbrev rmJ1_indexOfChar_4cfef : Room := { frames := 0, cells := 0, slots := 0, locals := 0 }
set_option maxHeartbeats 4000000 in
set_option maxRecDepth 100000 in
theorem ctJ1_indexOfChar_4cfef {l : Launch} {g : GX} {N : Nat} {ln : Nat → Nat} {S : HC} {a0 : Nat} {a1 : Int32} {a2 : Int32} {a3 : Int32} {post : Int32 → HC → Prop} (hs_a0 : a0 < 6) (h : wpJ1_indexOfChar_4cfef ln S a0 a1 a2 a3 post) : Met l yJ1_indexOfChar_4cfef (Cond.code yJ1_indexOfChar_4cfef prog_15_method_23_code 6 (Option.some Jvm.ClassFile.FieldType.int) :: gtbl) rmJ1_indexOfChar_4cfef (va_Pc [.ref (gV g a0), .int a1, .int a2, .int a3] (AtP g N ln S)) (QI g N ln post) 0 0 (gF g) := by
  refine m_of (by decide) (Nat.le_of_ble_eq_true rfl) ?_
  intro p e s m below meth c ls F hr I hl
  have hl : lv_has ls 6 [(0, .ref (gV g a0)), (1, .int a1), (2, .int a2), (3, .int a3)] := hl
  unfold wpJ1_indexOfChar_4cfef at h
  have hl_7 : ∀ n7 : Nat, ∀ (S : HC) (H : Heap) (locs : List Loc) (ls : Array Slot) (x0 : Nat) (x3 : Int32) (x4 : Int32) (x5 : Int32), x0 < 6 → LJ1_indexOfChar_4cfef_7 ln post n7 S x0 x3 x4 x5 → Inv g N ln S s H locs → lv_has ls 6 [(0, .ref (gV g x0)), (3, .int x3), (4, .int x4), (5, .int x5)] → W p l e rmJ1_indexOfChar_4cfef s m ([.ref (gV g a0), .int a1, .int a2, .int a3] : List Value).toArray below meth c H locs 0 0 (MQ below (QI g N ln post) ([.ref (gV g a0), .int a1, .int a2, .int a3] : List Value).toArray s 0 0 (gF g)) (F0 m 7 ls []) := by
    intro n7
    induction n7 with
    | zero =>
      intro S H locs ls x0 x3 x4 x5 hs_x0 h I hl
      exact h.elim
    | succ n7 ih =>
      have hk7 := ih
      intro S H locs ls x0 x3 x4 x5 hs_x0 h I hl
      rw [LJ1_indexOfChar_4cfef_7] at h
      refine lv_iload F.1 F.2.1 dJ1_indexOfChar_4cfef_7 (lv_at hl 3 rfl) ?_
      refine lv_iload_n F.1 F.2.1 dJ1_indexOfChar_4cfef_9 rfl (lv_at hl 1 rfl) ?_
      refine r_icmp_ge (tgt := 31) F dJ1_indexOfChar_4cfef_10 (by decide) h (fun h => ?_) (fun h => ?_)
      · refine lv_iconst (v := -1) F.1 F.2.1 dJ1_indexOfChar_4cfef_31 (by decide) ?_
        exact r_ireturn F I ⟨hr.1, hr.2.1, trivial⟩ h dJ1_indexOfChar_4cfef_32
      · refine lv_aload_n F.1 F.2.1 dJ1_indexOfChar_4cfef_13 rfl (lv_at hl 0 rfl) ?_
        refine lv_iload F.1 F.2.1 dJ1_indexOfChar_4cfef_14 (lv_at hl 3 rfl) ?_
        refine r_sbyt F I hs_x0 dJ1_indexOfChar_4cfef_16 h (fun z1 h => ?_)
        refine lv_iload F.1 F.2.1 dJ1_indexOfChar_4cfef_17 (lv_at hl 2 rfl) ?_
        refine r_icmp_ne (tgt := 25) F dJ1_indexOfChar_4cfef_19 (by decide) h (fun h => ?_) (fun h => ?_)
        · obtain ⟨z2, e_z2, h⟩ := lt_x h
          refine lv_iinc (v := z2) (lv' := [(5, .int z2), (0, .ref (gV g x0)), (3, .int x3), (4, .int x4)]) F.1 F.2.1 dJ1_indexOfChar_4cfef_25 hl (k := 3) rfl (by rw [e_z2]; rfl) (by decide) rfl (fun ls hl => ?_)
          refine lv_goto (tgt := 7) F.1 F.2.1 dJ1_indexOfChar_4cfef_28 (by decide) ?_
          exact hk7 S _ _ _ x0 x3 x4 z2 hs_x0 h I (lv_sub hl [1, 2, 3, 0] rfl)
        · refine lv_iload F.1 F.2.1 dJ1_indexOfChar_4cfef_22 (lv_at hl 3 rfl) ?_
          exact r_ireturn F I ⟨hr.1, hr.2.1, trivial⟩ h dJ1_indexOfChar_4cfef_24
  refine lv_iload_n F.1 F.2.1 dJ1_indexOfChar_4cfef_0 rfl (lv_at hl 1 rfl) ?_
  refine r_i2b F dJ1_indexOfChar_4cfef_1 h (fun z3 h => ?_)
  refine lv_istore (lv' := [(4, .int z3), (0, .ref (gV g a0)), (1, .int a1), (2, .int a2), (3, .int a3)]) F.1 F.2.1 dJ1_indexOfChar_4cfef_2 hl (by decide) rfl (fun ls hl => ?_)
  refine lv_iload_n F.1 F.2.1 dJ1_indexOfChar_4cfef_4 rfl (lv_at hl 3 rfl) ?_
  refine lv_istore (lv' := [(5, .int a2), (4, .int z3), (0, .ref (gV g a0)), (1, .int a1), (2, .int a2), (3, .int a3)]) F.1 F.2.1 dJ1_indexOfChar_4cfef_5 hl (by decide) rfl (fun ls hl => ?_)
  obtain ⟨n7, h⟩ := h
  exact hl_7 n7 S _ _ _ a0 a3 z3 a2 hs_a0 h I (lv_sub hl [2, 5, 1, 0] rfl)
theorem bdJ1_indexOf_4cfef_0 : ∀ q ∈ ([(0, .iload_n 1, 1), (1, .invokestatic 88, 3), (4, .ifCond .ne 5, 3), (7, .iconst (-1), 1), (8, .ireturn, 1), (9, .iload_n 2, 1), (10, .iconst 0, 1), (11, .invokestatic 92, 3), (14, .istore_n 2, 1), (15, .iload_n 3, 1), (16, .aload_n 0, 1), (18, .invokestatic 38, 3), (21, .istore_n 3, 1), (22, .iload_n 2, 1), (23, .iload_n 3, 1), (24, .if_icmp .lt 5, 3), (27, .iconst (-1), 1), (28, .ireturn, 1), (29, .aload_n 0, 1), (30, .iload_n 1, 1), (31, .iload_n 2, 1), (32, .iload_n 3, 1), (33, .invokestatic 95, 3), (36, .ireturn, 1)] : List (Nat × Jvm.ClassFile.Instr × Nat)), decode cJ1_indexOf_4cfef q.1 = .ok q.2 := chk_ok _ 0 _ rfl (by decide +kernel)
theorem dJ1_indexOf_4cfef_0 : decode cJ1_indexOf_4cfef 0 = .ok (.iload_n 1, 1) := bdJ1_indexOf_4cfef_0 (0, .iload_n 1, 1) (List.mem_of_getElem? (i := 0) rfl)
theorem dJ1_indexOf_4cfef_1 : decode cJ1_indexOf_4cfef 1 = .ok (.invokestatic 88, 3) := bdJ1_indexOf_4cfef_0 (1, .invokestatic 88, 3) (List.mem_of_getElem? (i := 1) rfl)
theorem dJ1_indexOf_4cfef_4 : decode cJ1_indexOf_4cfef 4 = .ok (.ifCond .ne 5, 3) := bdJ1_indexOf_4cfef_0 (4, .ifCond .ne 5, 3) (List.mem_of_getElem? (i := 2) rfl)
theorem dJ1_indexOf_4cfef_7 : decode cJ1_indexOf_4cfef 7 = .ok (.iconst (-1), 1) := bdJ1_indexOf_4cfef_0 (7, .iconst (-1), 1) (List.mem_of_getElem? (i := 3) rfl)
theorem dJ1_indexOf_4cfef_8 : decode cJ1_indexOf_4cfef 8 = .ok (.ireturn, 1) := bdJ1_indexOf_4cfef_0 (8, .ireturn, 1) (List.mem_of_getElem? (i := 4) rfl)
theorem dJ1_indexOf_4cfef_9 : decode cJ1_indexOf_4cfef 9 = .ok (.iload_n 2, 1) := bdJ1_indexOf_4cfef_0 (9, .iload_n 2, 1) (List.mem_of_getElem? (i := 5) rfl)
theorem dJ1_indexOf_4cfef_10 : decode cJ1_indexOf_4cfef 10 = .ok (.iconst 0, 1) := bdJ1_indexOf_4cfef_0 (10, .iconst 0, 1) (List.mem_of_getElem? (i := 6) rfl)
theorem dJ1_indexOf_4cfef_11 : decode cJ1_indexOf_4cfef 11 = .ok (.invokestatic 92, 3) := bdJ1_indexOf_4cfef_0 (11, .invokestatic 92, 3) (List.mem_of_getElem? (i := 7) rfl)
theorem dJ1_indexOf_4cfef_14 : decode cJ1_indexOf_4cfef 14 = .ok (.istore_n 2, 1) := bdJ1_indexOf_4cfef_0 (14, .istore_n 2, 1) (List.mem_of_getElem? (i := 8) rfl)
theorem dJ1_indexOf_4cfef_15 : decode cJ1_indexOf_4cfef 15 = .ok (.iload_n 3, 1) := bdJ1_indexOf_4cfef_0 (15, .iload_n 3, 1) (List.mem_of_getElem? (i := 9) rfl)
theorem dJ1_indexOf_4cfef_16 : decode cJ1_indexOf_4cfef 16 = .ok (.aload_n 0, 1) := bdJ1_indexOf_4cfef_0 (16, .aload_n 0, 1) (List.mem_of_getElem? (i := 10) rfl)
theorem dJ1_indexOf_4cfef_18 : decode cJ1_indexOf_4cfef 18 = .ok (.invokestatic 38, 3) := bdJ1_indexOf_4cfef_0 (18, .invokestatic 38, 3) (List.mem_of_getElem? (i := 11) rfl)
theorem dJ1_indexOf_4cfef_21 : decode cJ1_indexOf_4cfef 21 = .ok (.istore_n 3, 1) := bdJ1_indexOf_4cfef_0 (21, .istore_n 3, 1) (List.mem_of_getElem? (i := 12) rfl)
theorem dJ1_indexOf_4cfef_22 : decode cJ1_indexOf_4cfef 22 = .ok (.iload_n 2, 1) := bdJ1_indexOf_4cfef_0 (22, .iload_n 2, 1) (List.mem_of_getElem? (i := 13) rfl)
theorem dJ1_indexOf_4cfef_23 : decode cJ1_indexOf_4cfef 23 = .ok (.iload_n 3, 1) := bdJ1_indexOf_4cfef_0 (23, .iload_n 3, 1) (List.mem_of_getElem? (i := 14) rfl)
theorem dJ1_indexOf_4cfef_24 : decode cJ1_indexOf_4cfef 24 = .ok (.if_icmp .lt 5, 3) := bdJ1_indexOf_4cfef_0 (24, .if_icmp .lt 5, 3) (List.mem_of_getElem? (i := 15) rfl)
theorem dJ1_indexOf_4cfef_27 : decode cJ1_indexOf_4cfef 27 = .ok (.iconst (-1), 1) := bdJ1_indexOf_4cfef_0 (27, .iconst (-1), 1) (List.mem_of_getElem? (i := 16) rfl)
theorem dJ1_indexOf_4cfef_28 : decode cJ1_indexOf_4cfef 28 = .ok (.ireturn, 1) := bdJ1_indexOf_4cfef_0 (28, .ireturn, 1) (List.mem_of_getElem? (i := 17) rfl)
theorem dJ1_indexOf_4cfef_29 : decode cJ1_indexOf_4cfef 29 = .ok (.aload_n 0, 1) := bdJ1_indexOf_4cfef_0 (29, .aload_n 0, 1) (List.mem_of_getElem? (i := 18) rfl)
theorem dJ1_indexOf_4cfef_30 : decode cJ1_indexOf_4cfef 30 = .ok (.iload_n 1, 1) := bdJ1_indexOf_4cfef_0 (30, .iload_n 1, 1) (List.mem_of_getElem? (i := 19) rfl)
theorem dJ1_indexOf_4cfef_31 : decode cJ1_indexOf_4cfef 31 = .ok (.iload_n 2, 1) := bdJ1_indexOf_4cfef_0 (31, .iload_n 2, 1) (List.mem_of_getElem? (i := 20) rfl)
theorem dJ1_indexOf_4cfef_32 : decode cJ1_indexOf_4cfef 32 = .ok (.iload_n 3, 1) := bdJ1_indexOf_4cfef_0 (32, .iload_n 3, 1) (List.mem_of_getElem? (i := 21) rfl)
theorem dJ1_indexOf_4cfef_33 : decode cJ1_indexOf_4cfef 33 = .ok (.invokestatic 95, 3) := bdJ1_indexOf_4cfef_0 (33, .invokestatic 95, 3) (List.mem_of_getElem? (i := 22) rfl)
theorem dJ1_indexOf_4cfef_36 : decode cJ1_indexOf_4cfef 36 = .ok (.ireturn, 1) := bdJ1_indexOf_4cfef_0 (36, .ireturn, 1) (List.mem_of_getElem? (i := 23) rfl)
theorem dJ1_indexOf_4cfef_17 : decode cJ1_indexOf_4cfef 17 = .ok (.arraylength, 1) := by decide +kernel
theorem kJ1_88 : mthS RJ1 88 yJ1_canEncode_9a6ad prog_15_method_4_code 1 (Option.some Jvm.ClassFile.FieldType.boolean) 1 := ⟨⟨⟨tw_761, tw_72, tw_763⟩, rfl, by decide +kernel⟩, tw_762⟩
theorem kJ1_95 : mthS RJ1 95 yJ1_indexOfChar_4cfef prog_15_method_23_code 6 (Option.some Jvm.ClassFile.FieldType.int) 4 := ⟨⟨⟨tw_766, tw_72, tw_768⟩, rfl, by decide +kernel⟩, tw_767⟩
def wpJ1_indexOf_4cfef (ln : Nat → Nat) (S : HC) (a0 : Nat) (a1 : Int32) (a2 : Int32) (a3 : Int32) (post : Int32 → HC → Prop) : Prop := wpJ1_canEncode_9a6ad ln S a1 fun z1 S => if z1 = 0 then (post (-1 : Int32) S) else (lt_ (if a2 < (0 : Int32) then (0 : Int32) else a2) fun z2 => lt_ (nI (strL.getD a0 0)) fun z3 => lt_ (if z3 < a3 then z3 else a3) fun z4 => if z2 < z4 then (wpJ1_indexOfChar_4cfef ln S a0 a1 z2 z4 fun z5 S => post z5 S) else (post (-1 : Int32) S))
abbrev rmJ1_indexOf_4cfef : Room := { frames := 1, cells := 0, slots := 0, locals := 25 }
set_option maxHeartbeats 4000000 in
set_option maxRecDepth 100000 in
theorem ctJ1_indexOf_4cfef {l : Launch} {g : GX} {N : Nat} {ln : Nat → Nat} {S : HC} {a0 : Nat} {a1 : Int32} {a2 : Int32} {a3 : Int32} {post : Int32 → HC → Prop} (hs_a0 : a0 < 6) (h : wpJ1_indexOf_4cfef ln S a0 a1 a2 a3 post) : Met l yJ1_indexOf_4cfef (Cond.code yJ1_indexOf_4cfef prog_15_method_22_code 4 (Option.some Jvm.ClassFile.FieldType.int) :: gtbl) rmJ1_indexOf_4cfef (va_Pc [.ref (gV g a0), .int a1, .int a2, .int a3] (AtP g N ln S)) (QI g N ln post) 0 0 (gF g) := by
  refine m_of (by decide) (Nat.le_of_ble_eq_true rfl) ?_
  intro p e s m below meth c ls F hr I hl
  have hl : lv_has ls 4 [(0, .ref (gV g a0)), (1, .int a1), (2, .int a2), (3, .int a3)] := hl
  unfold wpJ1_indexOf_4cfef at h
  refine lv_iload_n F.1 F.2.1 dJ1_indexOf_4cfef_0 rfl (lv_at hl 1 rfl) ?_
  refine g_I I (run_S (As := [.int a1]) (rest := []) F I kJ1_88 (ctJ1_canEncode_9a6ad h) ⟨rfl, rfl⟩ ⟨Nat.le_of_ble_eq_true rfl, Nat.le_of_ble_eq_true rfl⟩ rfl hl.1 rfl (Nat.le_of_ble_eq_true rfl) ⟨Nat.le_of_ble_eq_true rfl, Nat.le_of_ble_eq_true rfl⟩ dJ1_indexOf_4cfef_1) (fun z1 S H locs I h => ?_)
  refine r_if_ne (tgt := 9) F dJ1_indexOf_4cfef_4 (by decide) h (fun h => ?_) (fun h => ?_)
  · refine lv_iload_n F.1 F.2.1 dJ1_indexOf_4cfef_9 rfl (lv_at hl 2 rfl) ?_
    refine lv_iconst (v := 0) F.1 F.2.1 dJ1_indexOf_4cfef_10 (by decide) ?_
    refine r_mmax F hl.1 tw_764 (Nat.le_of_ble_eq_true rfl) (Nat.le_of_ble_eq_true rfl) (Nat.zero_le _) (Nat.zero_le _) dJ1_indexOf_4cfef_11 h (fun z2 h => ?_)
    refine lv_istore_n (lv' := [(2, .int z2), (0, .ref (gV g a0)), (1, .int a1), (3, .int a3)]) F.1 F.2.1 dJ1_indexOf_4cfef_14 rfl hl (by decide) rfl (fun ls hl => ?_)
    refine lv_iload_n F.1 F.2.1 dJ1_indexOf_4cfef_15 rfl (lv_at hl 3 rfl) ?_
    refine lv_aload_n F.1 F.2.1 dJ1_indexOf_4cfef_16 rfl (lv_at hl 1 rfl) ?_
    refine r_slen F I hs_a0 dJ1_indexOf_4cfef_17 h (fun z3 h => ?_)
    refine r_mmin F hl.1 tw_765 (Nat.le_of_ble_eq_true rfl) (Nat.le_of_ble_eq_true rfl) (Nat.zero_le _) (Nat.zero_le _) dJ1_indexOf_4cfef_18 h (fun z4 h => ?_)
    refine lv_istore_n (lv' := [(3, .int z4), (2, .int z2), (0, .ref (gV g a0)), (1, .int a1)]) F.1 F.2.1 dJ1_indexOf_4cfef_21 rfl hl (by decide) rfl (fun ls hl => ?_)
    refine lv_iload_n F.1 F.2.1 dJ1_indexOf_4cfef_22 rfl (lv_at hl 1 rfl) ?_
    refine lv_iload_n F.1 F.2.1 dJ1_indexOf_4cfef_23 rfl (lv_at hl 0 rfl) ?_
    refine r_icmp_lt (tgt := 29) F dJ1_indexOf_4cfef_24 (by decide) h (fun h => ?_) (fun h => ?_)
    · refine lv_aload_n F.1 F.2.1 dJ1_indexOf_4cfef_29 rfl (lv_at hl 2 rfl) ?_
      refine lv_iload_n F.1 F.2.1 dJ1_indexOf_4cfef_30 rfl (lv_at hl 3 rfl) ?_
      refine lv_iload_n F.1 F.2.1 dJ1_indexOf_4cfef_31 rfl (lv_at hl 1 rfl) ?_
      refine lv_iload_n F.1 F.2.1 dJ1_indexOf_4cfef_32 rfl (lv_at hl 0 rfl) ?_
      refine g_I I (run_S (As := [.ref (gV g a0), .int a1, .int z2, .int z4]) (rest := []) F I kJ1_95 (ctJ1_indexOfChar_4cfef hs_a0 h) ⟨rfl, rfl⟩ ⟨Nat.le_of_ble_eq_true rfl, Nat.le_of_ble_eq_true rfl⟩ rfl hl.1 rfl (Nat.le_of_ble_eq_true rfl) ⟨Nat.le_of_ble_eq_true rfl, Nat.le_of_ble_eq_true rfl⟩ dJ1_indexOf_4cfef_33) (fun z5 S H locs I h => ?_)
      exact r_ireturn F I ⟨hr.1, hr.2.1, trivial⟩ h dJ1_indexOf_4cfef_36
    · refine lv_iconst (v := -1) F.1 F.2.1 dJ1_indexOf_4cfef_27 (by decide) ?_
      exact r_ireturn F I ⟨hr.1, hr.2.1, trivial⟩ h dJ1_indexOf_4cfef_28
  · refine lv_iconst (v := -1) F.1 F.2.1 dJ1_indexOf_4cfef_7 (by decide) ?_
    exact r_ireturn F I ⟨hr.1, hr.2.1, trivial⟩ h dJ1_indexOf_4cfef_8
theorem bdJ0_indexOf_7cf53_0 : ∀ q ∈ ([(0, .aload_n 0, 1), (1, .invokevirtual 492, 3), (4, .ifCond .eq 19, 3), (7, .aload_n 0, 1), (8, .getfield 9, 3), (11, .iload_n 1, 1), (12, .iload_n 2, 1), (13, .aload_n 0, 1), (14, .invokevirtual 505, 3), (17, .invokestatic 637, 3), (20, .goto 16, 3), (23, .aload_n 0, 1), (24, .getfield 9, 3), (27, .iload_n 1, 1), (28, .iload_n 2, 1), (29, .aload_n 0, 1), (30, .invokevirtual 505, 3), (33, .invokestatic 640, 3), (36, .ireturn, 1)] : List (Nat × Jvm.ClassFile.Instr × Nat)), decode cJ0_indexOf_7cf53 q.1 = .ok q.2 := chk_ok _ 0 _ rfl (by decide +kernel)
theorem dJ0_indexOf_7cf53_0 : decode cJ0_indexOf_7cf53 0 = .ok (.aload_n 0, 1) := bdJ0_indexOf_7cf53_0 (0, .aload_n 0, 1) (List.mem_of_getElem? (i := 0) rfl)
theorem dJ0_indexOf_7cf53_1 : decode cJ0_indexOf_7cf53 1 = .ok (.invokevirtual 492, 3) := bdJ0_indexOf_7cf53_0 (1, .invokevirtual 492, 3) (List.mem_of_getElem? (i := 1) rfl)
theorem dJ0_indexOf_7cf53_4 : decode cJ0_indexOf_7cf53 4 = .ok (.ifCond .eq 19, 3) := bdJ0_indexOf_7cf53_0 (4, .ifCond .eq 19, 3) (List.mem_of_getElem? (i := 2) rfl)
theorem dJ0_indexOf_7cf53_7 : decode cJ0_indexOf_7cf53 7 = .ok (.aload_n 0, 1) := bdJ0_indexOf_7cf53_0 (7, .aload_n 0, 1) (List.mem_of_getElem? (i := 3) rfl)
theorem dJ0_indexOf_7cf53_8 : decode cJ0_indexOf_7cf53 8 = .ok (.getfield 9, 3) := bdJ0_indexOf_7cf53_0 (8, .getfield 9, 3) (List.mem_of_getElem? (i := 4) rfl)
theorem dJ0_indexOf_7cf53_11 : decode cJ0_indexOf_7cf53 11 = .ok (.iload_n 1, 1) := bdJ0_indexOf_7cf53_0 (11, .iload_n 1, 1) (List.mem_of_getElem? (i := 5) rfl)
theorem dJ0_indexOf_7cf53_12 : decode cJ0_indexOf_7cf53 12 = .ok (.iload_n 2, 1) := bdJ0_indexOf_7cf53_0 (12, .iload_n 2, 1) (List.mem_of_getElem? (i := 6) rfl)
theorem dJ0_indexOf_7cf53_13 : decode cJ0_indexOf_7cf53 13 = .ok (.aload_n 0, 1) := bdJ0_indexOf_7cf53_0 (13, .aload_n 0, 1) (List.mem_of_getElem? (i := 7) rfl)
theorem dJ0_indexOf_7cf53_14 : decode cJ0_indexOf_7cf53 14 = .ok (.invokevirtual 505, 3) := bdJ0_indexOf_7cf53_0 (14, .invokevirtual 505, 3) (List.mem_of_getElem? (i := 8) rfl)
theorem dJ0_indexOf_7cf53_17 : decode cJ0_indexOf_7cf53 17 = .ok (.invokestatic 637, 3) := bdJ0_indexOf_7cf53_0 (17, .invokestatic 637, 3) (List.mem_of_getElem? (i := 9) rfl)
theorem dJ0_indexOf_7cf53_20 : decode cJ0_indexOf_7cf53 20 = .ok (.goto 16, 3) := bdJ0_indexOf_7cf53_0 (20, .goto 16, 3) (List.mem_of_getElem? (i := 10) rfl)
theorem dJ0_indexOf_7cf53_23 : decode cJ0_indexOf_7cf53 23 = .ok (.aload_n 0, 1) := bdJ0_indexOf_7cf53_0 (23, .aload_n 0, 1) (List.mem_of_getElem? (i := 11) rfl)
theorem dJ0_indexOf_7cf53_24 : decode cJ0_indexOf_7cf53 24 = .ok (.getfield 9, 3) := bdJ0_indexOf_7cf53_0 (24, .getfield 9, 3) (List.mem_of_getElem? (i := 12) rfl)
theorem dJ0_indexOf_7cf53_27 : decode cJ0_indexOf_7cf53 27 = .ok (.iload_n 1, 1) := bdJ0_indexOf_7cf53_0 (27, .iload_n 1, 1) (List.mem_of_getElem? (i := 13) rfl)
theorem dJ0_indexOf_7cf53_28 : decode cJ0_indexOf_7cf53 28 = .ok (.iload_n 2, 1) := bdJ0_indexOf_7cf53_0 (28, .iload_n 2, 1) (List.mem_of_getElem? (i := 14) rfl)
theorem dJ0_indexOf_7cf53_29 : decode cJ0_indexOf_7cf53 29 = .ok (.aload_n 0, 1) := bdJ0_indexOf_7cf53_0 (29, .aload_n 0, 1) (List.mem_of_getElem? (i := 15) rfl)
theorem dJ0_indexOf_7cf53_30 : decode cJ0_indexOf_7cf53 30 = .ok (.invokevirtual 505, 3) := bdJ0_indexOf_7cf53_0 (30, .invokevirtual 505, 3) (List.mem_of_getElem? (i := 16) rfl)
theorem dJ0_indexOf_7cf53_33 : decode cJ0_indexOf_7cf53 33 = .ok (.invokestatic 640, 3) := bdJ0_indexOf_7cf53_0 (33, .invokestatic 640, 3) (List.mem_of_getElem? (i := 17) rfl)
theorem dJ0_indexOf_7cf53_36 : decode cJ0_indexOf_7cf53 36 = .ok (.ireturn, 1) := bdJ0_indexOf_7cf53_0 (36, .ireturn, 1) (List.mem_of_getElem? (i := 18) rfl)
theorem kJ0_505 : mthT RJ0 505 yJ0_length_8abf5 prog_14_method_54_code 1 (Option.some Jvm.ClassFile.FieldType.int) 0 := ⟨⟨⟨tw_757, tw_71, tw_663⟩, rfl, by decide +kernel⟩, tw_661, tw_662⟩
theorem kJ0_637 : mthS RJ0 637 yJ1_indexOf_4cfef prog_15_method_22_code 4 (Option.some Jvm.ClassFile.FieldType.int) 4 := ⟨⟨⟨tw_758, tw_72, tw_760⟩, rfl, by decide +kernel⟩, tw_759⟩
def wpJ0_indexOf_7cf53 (ln : Nat → Nat) (S : HC) (a0 : Nat) (a1 : Int32) (a2 : Int32) (post : Int32 → HC → Prop) : Prop := wpJ0_isLatin1_aae02 ln S a0 fun z1 S => if z1 = 0 then (False) else (wpJ0_length_8abf5 ln S a0 fun z2 S => wpJ1_indexOf_4cfef ln S a0 a1 a2 z2 fun z3 S => post z3 S)
abbrev rmJ0_indexOf_7cf53 : Room := { frames := 2, cells := 0, slots := 0, locals := 48 }
set_option maxHeartbeats 4000000 in
set_option maxRecDepth 100000 in
theorem ctJ0_indexOf_7cf53 {l : Launch} {g : GX} {N : Nat} {ln : Nat → Nat} {S : HC} {a0 : Nat} {a1 : Int32} {a2 : Int32} {post : Int32 → HC → Prop} (hs_a0 : a0 < 6) (h : wpJ0_indexOf_7cf53 ln S a0 a1 a2 post) : Met l yJ0_indexOf_7cf53 (Cond.code yJ0_indexOf_7cf53 prog_14_method_80_code 3 (Option.some Jvm.ClassFile.FieldType.int) :: gtbl) rmJ0_indexOf_7cf53 (va_Pc [.ref (gK g a0), .int a1, .int a2] (AtP g N ln S)) (QI g N ln post) 0 0 (gF g) := by
  refine m_of (by decide) (Nat.le_of_ble_eq_true rfl) ?_
  intro p e s m below meth c ls F hr I hl
  have hl : lv_has ls 3 [(0, .ref (gK g a0)), (1, .int a1), (2, .int a2)] := hl
  unfold wpJ0_indexOf_7cf53 at h
  refine lv_aload_n F.1 F.2.1 dJ0_indexOf_7cf53_0 rfl (lv_at hl 0 rfl) ?_
  refine g_I I (run_T (As := []) (rest := []) F I hs_a0 kJ0_492 (ctJ0_isLatin1_aae02 hs_a0 h) ⟨rfl, rfl⟩ ⟨Nat.le_of_ble_eq_true rfl, Nat.le_of_ble_eq_true rfl⟩ rfl hl.1 rfl (Nat.le_of_ble_eq_true rfl) ⟨Nat.le_of_ble_eq_true rfl, Nat.le_of_ble_eq_true rfl⟩ dJ0_indexOf_7cf53_1) (fun z1 S H locs I h => ?_)
  refine r_if_eq (tgt := 23) F dJ0_indexOf_7cf53_4 (by decide) h (fun h => ?_) (fun h => ?_)
  · exact h.elim
  · refine lv_aload_n F.1 F.2.1 dJ0_indexOf_7cf53_7 rfl (lv_at hl 0 rfl) ?_
    refine r_sval F I hs_a0 tw_1395 dJ0_indexOf_7cf53_8 ?_
    refine lv_iload_n F.1 F.2.1 dJ0_indexOf_7cf53_11 rfl (lv_at hl 1 rfl) ?_
    refine lv_iload_n F.1 F.2.1 dJ0_indexOf_7cf53_12 rfl (lv_at hl 2 rfl) ?_
    refine lv_aload_n F.1 F.2.1 dJ0_indexOf_7cf53_13 rfl (lv_at hl 0 rfl) ?_
    refine g_I I (run_T (As := []) (rest := [.int a2, .int a1, .ref (gV g a0)]) F I hs_a0 kJ0_505 (ctJ0_length_8abf5 hs_a0 h) ⟨rfl, rfl⟩ ⟨Nat.le_of_ble_eq_true rfl, Nat.le_of_ble_eq_true rfl⟩ rfl hl.1 rfl (Nat.le_of_ble_eq_true rfl) ⟨Nat.le_of_ble_eq_true rfl, Nat.le_of_ble_eq_true rfl⟩ dJ0_indexOf_7cf53_14) (fun z2 S H locs I h => ?_)
    refine g_I I (run_S (As := [.ref (gV g a0), .int a1, .int a2, .int z2]) (rest := []) F I kJ0_637 (ctJ1_indexOf_4cfef hs_a0 h) ⟨rfl, rfl⟩ ⟨Nat.le_of_ble_eq_true rfl, Nat.le_of_ble_eq_true rfl⟩ rfl hl.1 rfl (Nat.le_of_ble_eq_true rfl) ⟨Nat.le_of_ble_eq_true rfl, Nat.le_of_ble_eq_true rfl⟩ dJ0_indexOf_7cf53_17) (fun z3 S H locs I h => ?_)
    refine lv_goto (tgt := 36) F.1 F.2.1 dJ0_indexOf_7cf53_20 (by decide) ?_
    exact r_ireturn F I ⟨hr.1, hr.2.1, trivial⟩ h dJ0_indexOf_7cf53_36
theorem bdJ0_indexOf_0f7a4_0 : ∀ q ∈ ([(0, .aload_n 0, 1), (1, .iload_n 1, 1), (2, .iconst 0, 1), (3, .invokevirtual 633, 3), (6, .ireturn, 1)] : List (Nat × Jvm.ClassFile.Instr × Nat)), decode cJ0_indexOf_0f7a4 q.1 = .ok q.2 := chk_ok _ 0 _ rfl (by decide +kernel)
theorem dJ0_indexOf_0f7a4_0 : decode cJ0_indexOf_0f7a4 0 = .ok (.aload_n 0, 1) := bdJ0_indexOf_0f7a4_0 (0, .aload_n 0, 1) (List.mem_of_getElem? (i := 0) rfl)
theorem dJ0_indexOf_0f7a4_1 : decode cJ0_indexOf_0f7a4 1 = .ok (.iload_n 1, 1) := bdJ0_indexOf_0f7a4_0 (1, .iload_n 1, 1) (List.mem_of_getElem? (i := 1) rfl)
theorem dJ0_indexOf_0f7a4_2 : decode cJ0_indexOf_0f7a4 2 = .ok (.iconst 0, 1) := bdJ0_indexOf_0f7a4_0 (2, .iconst 0, 1) (List.mem_of_getElem? (i := 2) rfl)
theorem dJ0_indexOf_0f7a4_3 : decode cJ0_indexOf_0f7a4 3 = .ok (.invokevirtual 633, 3) := bdJ0_indexOf_0f7a4_0 (3, .invokevirtual 633, 3) (List.mem_of_getElem? (i := 3) rfl)
theorem dJ0_indexOf_0f7a4_6 : decode cJ0_indexOf_0f7a4 6 = .ok (.ireturn, 1) := bdJ0_indexOf_0f7a4_0 (6, .ireturn, 1) (List.mem_of_getElem? (i := 4) rfl)
theorem kJ0_633 : mthT RJ0 633 yJ0_indexOf_7cf53 prog_14_method_80_code 3 (Option.some Jvm.ClassFile.FieldType.int) 2 := ⟨⟨⟨tw_753, tw_71, tw_756⟩, rfl, by decide +kernel⟩, tw_754, tw_755⟩
def wpJ0_indexOf_0f7a4 (ln : Nat → Nat) (S : HC) (a0 : Nat) (a1 : Int32) (post : Int32 → HC → Prop) : Prop := wpJ0_indexOf_7cf53 ln S a0 a1 (0 : Int32) fun z1 S => post z1 S
abbrev rmJ0_indexOf_0f7a4 : Room := { frames := 3, cells := 0, slots := 0, locals := 70 }
set_option maxHeartbeats 4000000 in
set_option maxRecDepth 100000 in
theorem ctJ0_indexOf_0f7a4 {l : Launch} {g : GX} {N : Nat} {ln : Nat → Nat} {S : HC} {a0 : Nat} {a1 : Int32} {post : Int32 → HC → Prop} (hs_a0 : a0 < 6) (h : wpJ0_indexOf_0f7a4 ln S a0 a1 post) : Met l yJ0_indexOf_0f7a4 (Cond.code yJ0_indexOf_0f7a4 prog_14_method_79_code 2 (Option.some Jvm.ClassFile.FieldType.int) :: gtbl) rmJ0_indexOf_0f7a4 (va_Pc [.ref (gK g a0), .int a1] (AtP g N ln S)) (QI g N ln post) 0 0 (gF g) := by
  refine m_of (by decide) (Nat.le_of_ble_eq_true rfl) ?_
  intro p e s m below meth c ls F hr I hl
  have hl : lv_has ls 2 [(0, .ref (gK g a0)), (1, .int a1)] := hl
  unfold wpJ0_indexOf_0f7a4 at h
  refine lv_aload_n F.1 F.2.1 dJ0_indexOf_0f7a4_0 rfl (lv_at hl 0 rfl) ?_
  refine lv_iload_n F.1 F.2.1 dJ0_indexOf_0f7a4_1 rfl (lv_at hl 1 rfl) ?_
  refine lv_iconst (v := 0) F.1 F.2.1 dJ0_indexOf_0f7a4_2 (by decide) ?_
  refine g_I I (run_T (As := [.int a1, .int (0 : Int32)]) (rest := []) F I hs_a0 kJ0_633 (ctJ0_indexOf_7cf53 hs_a0 h) ⟨rfl, rfl⟩ ⟨Nat.le_of_ble_eq_true rfl, Nat.le_of_ble_eq_true rfl⟩ rfl hl.1 rfl (Nat.le_of_ble_eq_true rfl) ⟨Nat.le_of_ble_eq_true rfl, Nat.le_of_ble_eq_true rfl⟩ dJ0_indexOf_0f7a4_3) (fun z1 S H locs I h => ?_)
  exact r_ireturn F I ⟨hr.1, hr.2.1, trivial⟩ h dJ0_indexOf_0f7a4_6
