/-! ROWS: an instruction, what the pure predicate says of it, and the machine's step -/
def lt_ {α : Type} (v : α) (K : α → Prop) : Prop := K v
/-- a reference that must be there -/
def dn_ (o : Option Nat) (K : Nat → Prop) : Prop := ∃ b, o = some b ∧ K b
/-- a reference that may be null -/
def cO_ (o : Option Nat) (A : Prop) (B : Nat → Prop) : Prop := (o = none → A) ∧ ∀ b, o = some b → B b
/-- reading and writing a place of an array -/
def al_ {α : Type} (n : Nat) (i : Int32) (f : Nat → α) (K : α → Prop) : Prop := vp_in i n ∧ K (f i.toNatClampNeg)
def as_ (n : Nat) (i : Int32) (f : Nat → HC) (K : HC → Prop) : Prop := vp_in i n ∧ K (f i.toNatClampNeg)
def ne_ (y : Int32) (K : Prop) : Prop := ¬ y = 0 ∧ K
/-- a field, by the class that names it and the place there: class, place, type, final -/
def fldOK (own : String) (idx ci k : Nat) (fty : FieldType) (fin : Bool) : Prop := ∃ (C : String) (T : u_T) (n : Nat) (ty : Nat → FieldType), (vwCl[ci]? = some (C, T, n) ∧ (∀ w ∈ u_ws C T n, w ∈ gtbl) ∧ k < n ∧ nf ci = n ∧ ci < 9) ∧ Cond.fieldLink own idx (T k).1 (T k).2.1 (T k).2.2.1 ∈ gtbl ∧ ((∀ k, k < n → parseFieldDescriptor (T k).2.2.1 = some (ty k)) ∧ (∀ a, a < n → ∀ b, b < n → a ≠ b → (T a).2.1 ≠ (T b).2.1)) ∧ parseFieldDescriptor (T k).2.2.1 = some fty ∧ (T k).2.2.2 = fin ∧ (T k).1 = C
/-- a class that is made -/
def clsOK (own : String) (idx ci n : Nat) : Prop := ∃ (C : String) (T : u_T) (ty : Nat → FieldType), (vwCl[ci]? = some (C, T, n) ∧ (∀ w ∈ u_ws C T n, w ∈ gtbl) ∧ nf ci = n ∧ ci < 9) ∧ (∀ k, k < n → parseFieldDescriptor (T k).2.2.1 = some (ty k)) ∧ (∀ k, k < n → defaultValue (ty k) = if fk ci k = 99 then .int 0 else .null) ∧ Cond.classLink own idx C ∈ gtbl ∧ Cond.instantiable C n ∈ gtbl ∧ Cond.initialized C ∈ gtbl
/-- a method that is called -/
def mthOK (own : String) (idx : Nat) (C : String) (y : MethodName) (bytes : ByteArray) (mL : Nat) (ret : Option FieldType) (n : Nat) : Prop := (Cond.methodLink own idx y ∈ gtbl ∧ Cond.initialized y.cls ∈ gtbl ∧ Cond.code y bytes mL ret ∈ gtbl) ∧ y.cls = C ∧ y.cls ≠ "java/lang/invoke/MethodHandle" ∧ y.cls ≠ "java/lang/invoke/VarHandle" ∧ (parseMethodDescriptor y.desc).map (fun d => d.parameters.length) = some n
theorem good_in {y : MethodName} {cc : ByteArray} {n : Nat} {r : Option FieldType} (h : Cond.code y cc n r ∈ gtbl) : GoodIn gtbl (Cond.code y cc n r :: gtbl) := fun w hw => by
  have h2 : w ∈ gtbl := (List.mem_cons.mp hw).elim (fun e => e ▸ h) id
  exact ⟨h2, good_of_word (gtbl_good h2)⟩
theorem wl_eq {z0 N r : Nat} {cA : Nat → ClassId} {ln : Nat → Nat} {S : HC} {e : va_E} (hr : r < N) (he : ce z0 cA ln S r = e) : (wl z0 cA N ln S)[r]? = some (z0 + r, e) := by rw [wl_at hr, he]
theorem Inv.wr2 {g : GX} {N : Nat} {ln : Nat → Nat} {S S' : HC} {s : State} {H H1 : Heap} {locs : List Loc} (I : Inv g N ln S s H locs) {r k : Nat} (hr : r < N) (hat : va_at (gD g) vwCl (gz g + r, ce (gz g) (gA g) ln S' r) H1) (hz : H1.size = H.size) (oq : ∀ q, q ≠ gz g + r → H1[q]? = H[q]?) (hce : ∀ a, a ≠ r → ce (gz g) (gA g) ln S' a = ce (gz g) (gA g) ln S a) (hT : WT N S') : Inv g N ln S' s H1 (locs ++ [⟨gz g + r, k⟩]) := by
  refine I.wr (fun j q hj => ?_) hT hz (I.S.put hz oq (Nat.le_add_right _ _))
  obtain ⟨h1, h2⟩ := wl_in hj
  subst h2
  by_cases e : j = r
  · subst e; exact hat
  · have h3 := I.P j _ (wl_at h1)
    rw [hce j e]
    exact h3.kept (oq _ (by simp only; omega))
section RW
variable {p : Program} {l : Launch} {e : Env} {R : Room} {s : State} {m : MethodId} {args : Array Value} {below : List Frame} {meth : Method} {c : Code} {H : Heap} {locs : List Loc} {cells slots : Nat} {Q : State → Prop}
variable {cc : ByteArray} {pc nL : Nat} {ls : Array Slot} {rest : List Value} {own : String}
variable {g : GX} {N : Nat} {ln : Nat → Nat} {S : HC}
theorem r_getI (F : CallFix p m c cc nL s args gtbl own) (I : Inv g N ln S s H locs) {r idx ci k : Nat} {fty : FieldType} {fin : Bool} (hr : r < N) (hk : kd r = ci) (ff : fldOK own idx ci k fty fin) (hf : fk ci k = 99) (hdg : decode cc pc = .ok (.getfield idx, 3)) {K : Int32 → Prop} (h : lt_ (hI S r k) K)
    (kk : ∀ v, K v → W p l e R s m args below meth c H locs cells slots Q (F0 m (pc + 3) ls (.int v :: rest))) : W p l e R s m args below meth c H locs cells slots Q (F0 m pc ls (.ref (gz g + r) :: rest)) := by
  obtain ⟨C, T, n, ty, ⟨hc, hin, hkn, hn, h9⟩, hl, -, -, -, -⟩ := ff
  refine va_get (D := gD g) (ci := ci) (v := .int (hI S r k)) (C := C) (T := T) (N := n) (ref := (T k).1) F.1 F.2.1 F.2.2.2.2 hin F.2.2.2.1 I.K I.P r (wl_eq hr (ce_o hk h9)) hc k hkn (F.2.2.2.2 _ hl) (fun _ h9 => h9) ?_ hdg (kk _ h)
  rw [fl_at (by omega), fv, if_pos hf]
theorem r_getN (F : CallFix p m c cc nL s args gtbl own) (I : Inv g N ln S s H locs) {r idx ci k f : Nat} {fty : FieldType} {fin : Bool} (hr : r < N) (hk : kd r = ci) (ff : fldOK own idx ci k fty fin) (hf : fk ci k = f) (hf9 : f ≠ 99) (hdg : decode cc pc = .ok (.getfield idx, 3)) {K : Nat → Prop} (h : dn_ (hR S r k) K)
    (kk : ∀ b, b < N → kd b = f → K b → W p l e R s m args below meth c H locs cells slots Q (F0 m (pc + 3) ls (.ref (gz g + b) :: rest))) : W p l e R s m args below meth c H locs cells slots Q (F0 m pc ls (.ref (gz g + r) :: rest)) := by
  obtain ⟨b, hb, h⟩ := h
  obtain ⟨h1, h2⟩ := I.at hr hk hf hf9 hb
  obtain ⟨C, T, n, ty, ⟨hc, hin, hkn, hn, h9⟩, hl, -, -, -, -⟩ := ff
  refine va_get (D := gD g) (ci := ci) (v := .ref (gz g + b)) (C := C) (T := T) (N := n) (ref := (T k).1) F.1 F.2.1 F.2.2.2.2 hin F.2.2.2.1 I.K I.P r (wl_eq hr (ce_o hk h9)) hc k hkn (F.2.2.2.2 _ hl) (fun _ h9 => h9) ?_ hdg (kk b h1 h2 h)
  rw [fl_at (by omega), fv, if_neg (by omega), hb]; rfl
theorem r_getO (F : CallFix p m c cc nL s args gtbl own) (I : Inv g N ln S s H locs) {r idx ci k f : Nat} {fty : FieldType} {fin : Bool} (hr : r < N) (hk : kd r = ci) (ff : fldOK own idx ci k fty fin) (hf : fk ci k = f) (hf9 : f ≠ 99) (hdg : decode cc pc = .ok (.getfield idx, 3)) {K : Option Nat → Prop} (h : lt_ (hR S r k) K)
    (kk : ∀ o : Option Nat, (∀ b, o = some b → b < N ∧ kd b = f) → K o → W p l e R s m args below meth c H locs cells slots Q (F0 m (pc + 3) ls (va_rf (o.map (gz g + ·)) :: rest))) : W p l e R s m args below meth c H locs cells slots Q (F0 m pc ls (.ref (gz g + r) :: rest)) := by
  obtain ⟨C, T, n, ty, ⟨hc, hin, hkn, hn, h9⟩, hl, -, -, -, -⟩ := ff
  refine va_get (D := gD g) (ci := ci) (v := va_rf ((hR S r k).map (gz g + ·))) (C := C) (T := T) (N := n) (ref := (T k).1) F.1 F.2.1 F.2.2.2.2 hin F.2.2.2.1 I.K I.P r (wl_eq hr (ce_o hk h9)) hc k hkn (F.2.2.2.2 _ hl) (fun _ h9 => h9) ?_ hdg (kk _ (fun b hb => I.at hr hk hf hf9 hb) h)
  rw [fl_at (by omega), fv, if_neg (by omega)]
/-- a write of a field, any value -/
theorem r_put0 (F : CallFix p m c cc nL s args gtbl own) (I : Inv g N ln S s H locs) {r idx ci k : Nat} {fty : FieldType} {fin : Bool} (hr : r < N) (hk : kd r = ci) (ff : fldOK own idx ci k fty fin) (hF : fin = false ∨ (meth.name = "<init>" ∧ vwCl[ci]?.map (fun q => q.1) = some own)) {v : Value} (hn : narrow fty v = v) (hfit : fits fty v = true) {S' : HC} (hv : v = fv (gz g) S' r ci k) (ho : ∀ j, j ≠ k → fv (gz g) S' r ci j = fv (gz g) S r ci j) (hce : ∀ a, a ≠ r → ce (gz g) (gA g) ln S' a = ce (gz g) (gA g) ln S a) (hT : WT N S') (hdg : decode cc pc = .ok (.putfield idx, 3))
    (kk : ∀ (H1 : Heap) (locs1 : List Loc), Inv g N ln S' s H1 locs1 → W p l e R s m args below meth c H1 locs1 cells slots Q (F0 m (pc + 3) ls rest)) : W p l e R s m args below meth c H locs cells slots Q (F0 m pc ls (v :: .ref (gz g + r) :: rest)) := by
  obtain ⟨C, T, n, ty, ⟨hc, hin, hkn, hnn, h9⟩, hl, ⟨hty, hnm⟩, hd, hfin, hdecl⟩ := ff
  obtain ⟨hx, hb, -, hown, hts⟩ := F
  have hap := va_apart (own := own) hts hin ty hty hnm I.K hc
  obtain ⟨q, hq1, cell, q1, q2, q3, q4⟩ := I.P r _ (wl_eq hr (ce_o hk h9))
  have hq : q = (C, T, n) := Option.some.inj (hq1.symm.trans hc)
  subst hq
  obtain ⟨hS, hfc, kC, hkC, hkind⟩ := I.K.1 ci _ hc
  obtain ⟨cf, kf, fi, f, hi, hsl⟩ := hS k hkn
  have hst := (u_facts hfc hkC (u_lays hts hin hkn) hi).1
  have fin2 : ∀ (H1 : Heap) (locs1 : List Loc), H1[gz g + r]? = some (cell.setSlot f.slot v) → H1.size = H.size → (∀ q, q ≠ gz g + r → H1[q]? = H[q]?) → Inv g N ln S' s H1 (locs ++ [⟨gz g + r, f.slot⟩]) := by
    intro H1 locs1 e1 e2 e3
    refine I.wr2 hr ?_ e2 e3 hce hT
    rw [ce_o hk h9]
    refine ⟨_, hc, ?_⟩
    rw [hsl] at e1
    refine t_OB.to (V := updV (vp_V (fl (gz g) S r ci)) k v) ⟨_, e1, q2, q3, t_set q4 hap hkn v⟩ (fun j hj => ?_)
    rw [vp_updV_set (by rw [fl_len]; omega), fl_set (by omega) hv ho]
  have hlay := hts _ (hin _ (u_in_lay hkn))
  unfold u_lay at hlay
  cases hfin2 : fin with
  | false =>
    rw [hfin2] at hfin
    rw [if_neg (by rw [hfin]; decide)] at hlay
    have h6 := u_store hfc hkC hkind hlay hi hd hn hfit
    exact W.putK hx hb (f := f) ⟨hown, hts _ hl, ⟨_, _, _, hi⟩, hst⟩ (by rw [q2]; exact h6) q1 q3 (by rw [hsl]; exact k2_hasslot (q4 k hkn)) rfl rfl hdg fun H1 e1 e2 e3 => kk H1 _ (fin2 H1 [] e1 e2 e3)
  | true =>
    rw [hfin2] at hfin hF
    rcases hF with hF | ⟨hin2, hcl⟩
    · cases hF
    rw [hc] at hcl
    have hCo : C = own := Option.some.inj hcl
    rw [if_pos hfin] at hlay
    have hcf : m.cls = cf := by
      obtain ⟨_, _, c', _, _, _, -, -, hf', -, -, -, hown2, -⟩ := Cond.laysFinal_spec hlay
      have e1 : c' = cf := by have := hi.symm.trans hf'; simp at this; exact this.1.symm
      rw [hdecl, hCo] at hown2
      rw [← e1]; exact Option.some.inj (hown.symm.trans hown2)
    have h6 := u_fits hfc hkC hkind (Or.inr hlay) hi hd hn hfit
    exact W.putFinK hx hb hown (hts _ hl) hi hst hcf hin2 (by rw [q2]; exact h6) q1 q3 (by rw [hsl]; exact k2_hasslot (q4 k hkn)) rfl rfl hdg fun H1 e1 e2 e3 => kk H1 _ (fin2 H1 [] e1 e2 e3)
theorem r_putI (F : CallFix p m c cc nL s args gtbl own) (I : Inv g N ln S s H locs) {r idx ci k : Nat} {fty : FieldType} {fin : Bool} (hr : r < N) (hk : kd r = ci) (ff : fldOK own idx ci k fty fin) (hf : fk ci k = 99) (hF : fin = false ∨ (meth.name = "<init>" ∧ vwCl[ci]?.map (fun q => q.1) = some own)) {v : Int32} (hn : narrow fty (.int v) = .int v ∧ fits fty (.int v) = true) (hdg : decode cc pc = .ok (.putfield idx, 3)) {K : HC → Prop} (h : lt_ (sI S r k v) K)
    (kk : ∀ (S1 : HC) (H1 : Heap) (locs1 : List Loc), Inv g N ln S1 s H1 locs1 → K S1 → W p l e R s m args below meth c H1 locs1 cells slots Q (F0 m (pc + 3) ls rest)) : W p l e R s m args below meth c H locs cells slots Q (F0 m pc ls (.int v :: .ref (gz g + r) :: rest)) := by
  refine r_put0 (S' := sI S r k v) F I hr hk ff hF hn.1 hn.2 ?_ ?_ ce_sI (I.T.sI r k v) hdg (fun H1 locs1 I1 => kk _ H1 locs1 I1 h)
  · rw [fv, if_pos hf]; simp [hI, sI, up2]
  · intro j hj; simp only [fv]; simp [hI, hR, sI, up2, hj]
theorem r_putO (F : CallFix p m c cc nL s args gtbl own) (I : Inv g N ln S s H locs) {r idx ci k f : Nat} {fty : FieldType} {fin : Bool} (hr : r < N) (hk : kd r = ci) (ff : fldOK own idx ci k fty fin) (hf : fk ci k = f) (hf9 : f ≠ 99) (hF : fin = false ∨ (meth.name = "<init>" ∧ vwCl[ci]?.map (fun q => q.1) = some own)) {o : Option Nat} (ho : ∀ b, o = some b → b < N ∧ kd b = f) (hn : ∀ a : Nat, (narrow fty (.ref a) = .ref a ∧ fits fty (.ref a) = true) ∧ narrow fty .null = .null ∧ fits fty .null = true) (hdg : decode cc pc = .ok (.putfield idx, 3)) {K : HC → Prop} (h : lt_ (sR S r k o) K)
    (kk : ∀ (S1 : HC) (H1 : Heap) (locs1 : List Loc), Inv g N ln S1 s H1 locs1 → K S1 → W p l e R s m args below meth c H1 locs1 cells slots Q (F0 m (pc + 3) ls rest)) : W p l e R s m args below meth c H locs cells slots Q (F0 m pc ls (va_rf (o.map (gz g + ·)) :: .ref (gz g + r) :: rest)) := by
  refine r_put0 (S' := sR S r k o) F I hr hk ff hF ?_ ?_ ?_ ?_ ce_sR (I.T.sR (fun b hb => by rw [hk, hf]; exact ho b hb)) hdg (fun H1 locs1 I1 => kk _ H1 locs1 I1 h)
  · cases o with
    | none => exact (hn 0).2.1
    | some b => exact (hn _).1.1
  · cases o with
    | none => exact (hn 0).2.2
    | some b => exact (hn _).1.2
  · rw [fv, if_neg (by omega)]; simp [hR, sR, up2]
  · intro j hj; simp only [fv]; simp [hI, hR, sR, up2, hj]
theorem r_putN (F : CallFix p m c cc nL s args gtbl own) (I : Inv g N ln S s H locs) {r idx ci k f b : Nat} {fty : FieldType} {fin : Bool} (hr : r < N) (hk : kd r = ci) (ff : fldOK own idx ci k fty fin) (hf : fk ci k = f) (hf9 : f ≠ 99) (hF : fin = false ∨ (meth.name = "<init>" ∧ vwCl[ci]?.map (fun q => q.1) = some own)) (hb : b < N) (hkb : kd b = f) (hn : ∀ a : Nat, (narrow fty (.ref a) = .ref a ∧ fits fty (.ref a) = true) ∧ narrow fty .null = .null ∧ fits fty .null = true) (hdg : decode cc pc = .ok (.putfield idx, 3)) {K : HC → Prop} (h : lt_ (sR S r k (some b)) K)
    (kk : ∀ (S1 : HC) (H1 : Heap) (locs1 : List Loc), Inv g N ln S1 s H1 locs1 → K S1 → W p l e R s m args below meth c H1 locs1 cells slots Q (F0 m (pc + 3) ls rest)) : W p l e R s m args below meth c H locs cells slots Q (F0 m pc ls (.ref (gz g + b) :: .ref (gz g + r) :: rest)) :=
  r_putO (o := some b) F I hr hk ff hf hf9 hF (fun b' e => by cases e; exact ⟨hb, hkb⟩) hn hdg h kk
theorem r_putNul (F : CallFix p m c cc nL s args gtbl own) (I : Inv g N ln S s H locs) {r idx ci k f : Nat} {fty : FieldType} {fin : Bool} (hr : r < N) (hk : kd r = ci) (ff : fldOK own idx ci k fty fin) (hf : fk ci k = f) (hf9 : f ≠ 99) (hF : fin = false ∨ (meth.name = "<init>" ∧ vwCl[ci]?.map (fun q => q.1) = some own)) (hn : ∀ a : Nat, (narrow fty (.ref a) = .ref a ∧ fits fty (.ref a) = true) ∧ narrow fty .null = .null ∧ fits fty .null = true) (hdg : decode cc pc = .ok (.putfield idx, 3)) {K : HC → Prop} (h : lt_ (sR S r k none) K)
    (kk : ∀ (S1 : HC) (H1 : Heap) (locs1 : List Loc), Inv g N ln S1 s H1 locs1 → K S1 → W p l e R s m args below meth c H1 locs1 cells slots Q (F0 m (pc + 3) ls rest)) : W p l e R s m args below meth c H locs cells slots Q (F0 m pc ls (.null :: .ref (gz g + r) :: rest)) :=
  r_putO (o := none) F I hr hk ff hf hf9 hF (fun b' e => by cases e) hn hdg h kk
theorem r_ald (F : CallFix p m c cc nL s args gtbl own) (I : Inv g N ln S s H locs) {r : Nat} (hr : r < N) (hk : kd r = 9) (hdg : decode cc pc = .ok (.iaload, 1)) {i : Int32} {K : Int32 → Prop} (h : al_ (ln r) i (hI S r) K)
    (kk : ∀ v, K v → W p l e R s m args below meth c H locs cells slots Q (F0 m (pc + 1) ls (.int v :: rest))) : W p l e R s m args below meth c H locs cells slots Q (F0 m pc ls (.int i :: .ref (gz g + r) :: rest)) :=
  va_iald F.1 F.2.1 I.K I.P r 0 (wl_eq hr (ce_i hk (Or.inl rfl))) rfl h.1 hdg (kk _ h.2)
theorem r_zald (F : CallFix p m c cc nL s args gtbl own) (I : Inv g N ln S s H locs) {r : Nat} (hr : r < N) (hk : kd r = 11) (hdg : decode cc pc = .ok (.baload, 1)) {i : Int32} {K : Int32 → Prop} (h : al_ (ln r) i (hI S r) K)
    (kk : ∀ v, K v → W p l e R s m args below meth c H locs cells slots Q (F0 m (pc + 1) ls (.int v :: rest))) : W p l e R s m args below meth c H locs cells slots Q (F0 m pc ls (.int i :: .ref (gz g + r) :: rest)) :=
  va_zald F.1 F.2.1 I.K I.P r 2 (wl_eq hr (ce_i hk (Or.inr (Or.inl rfl)))) rfl h.1 hdg (kk _ h.2)
theorem r_cald (F : CallFix p m c cc nL s args gtbl own) (I : Inv g N ln S s H locs) {r : Nat} (hr : r < N) (hk : kd r = 12) (hdg : decode cc pc = .ok (.caload, 1)) {i : Int32} {K : Int32 → Prop} (h : al_ (ln r) i (hI S r) K)
    (kk : ∀ v, K v → W p l e R s m args below meth c H locs cells slots Q (F0 m (pc + 1) ls (.int v :: rest))) : W p l e R s m args below meth c H locs cells slots Q (F0 m pc ls (.int i :: .ref (gz g + r) :: rest)) :=
  va_cald F.1 F.2.1 I.K I.P r 3 (wl_eq hr (ce_i hk (Or.inr (Or.inr rfl)))) rfl h.1 hdg (kk _ h.2)
theorem r_lald (F : CallFix p m c cc nL s args gtbl own) (I : Inv g N ln S s H locs) {r : Nat} (hr : r < N) (hk : kd r = 10) (hdg : decode cc pc = .ok (.laload, 1)) {i : Int32} {K : Int64 → Prop} (h : al_ (ln r) i (hJ S r) K)
    (kk : ∀ v, K v → W p l e R s m args below meth c H locs cells slots Q (F0 m (pc + 1) ls (.long v :: rest))) : W p l e R s m args below meth c H locs cells slots Q (F0 m pc ls (.int i :: .ref (gz g + r) :: rest)) :=
  va_lald F.1 F.2.1 I.K I.P r 1 (wl_eq hr (ce_j hk)) rfl h.1 hdg (kk _ h.2)
theorem tyL_at {cA : Nat → ClassId} {q : Nat} (h1 : 13 ≤ q) (h2 : q ≤ 15) : ∃ C, (tyL cA)[q - 9]? = some (cA q, .object C) ∧ C = ["LionShield$Law", "LionShield$Row", "LionShield$Slot"].getD (q - 13) "" := by
  rcases (show q = 13 ∨ q = 14 ∨ q = 15 by omega) with rfl | rfl | rfl <;> exact ⟨_, rfl, rfl⟩
theorem r_aldO (F : CallFix p m c cc nL s args gtbl own) (I : Inv g N ln S s H locs) {r q f : Nat} (hr : r < N) (hk : kd r = q) (hq : 13 ≤ q ∧ q ≤ 15) (hf : fk q 0 = f) (hdg : decode cc pc = .ok (.aaload, 1)) {i : Int32} {K : Option Nat → Prop} (h : al_ (ln r) i (hR S r) K)
    (kk : ∀ o : Option Nat, (∀ b, o = some b → b < N ∧ kd b = f) → K o → W p l e R s m args below meth c H locs cells slots Q (F0 m (pc + 1) ls (va_rf (o.map (gz g + ·)) :: rest))) : W p l e R s m args below meth c H locs cells slots Q (F0 m pc ls (.int i :: .ref (gz g + r) :: rest)) := by
  obtain ⟨C, hC, -⟩ := tyL_at (cA := gA g) hq.1 hq.2
  refine va_aldq F.1 F.2.1 I.K I.P r (q - 9) (wl_eq hr (ce_r hk hq.1)) hC h.1 hdg (kk _ (fun b hb => ?_) h.2)
  have e : ∀ j, fk q j = f := by
    intro j
    rcases (show q = 13 ∨ q = 14 ∨ q = 15 by omega) with rfl | rfl | rfl <;> exact hf
  refine I.at hr hk (e _) ?_ hb
  rw [← hf]
  rcases (show q = 13 ∨ q = 14 ∨ q = 15 by omega) with rfl | rfl | rfl <;> decide
theorem r_aldN (F : CallFix p m c cc nL s args gtbl own) (I : Inv g N ln S s H locs) {r q f : Nat} (hr : r < N) (hk : kd r = q) (hq : 13 ≤ q ∧ q ≤ 15) (hf : fk q 0 = f) (hdg : decode cc pc = .ok (.aaload, 1)) {i : Int32} {K : Nat → Prop} (h : al_ (ln r) i (hR S r) (fun o => dn_ o K))
    (kk : ∀ b : Nat, b < N → kd b = f → K b → W p l e R s m args below meth c H locs cells slots Q (F0 m (pc + 1) ls (.ref (gz g + b) :: rest))) : W p l e R s m args below meth c H locs cells slots Q (F0 m pc ls (.int i :: .ref (gz g + r) :: rest)) := by
  refine r_aldO F I hr hk hq hf hdg h (fun o ho h => ?_)
  obtain ⟨b, hb, h⟩ := h
  subst hb
  exact kk b (ho b rfl).1 (ho b rfl).2 h
theorem r_alen (F : CallFix p m c cc nL s args gtbl own) (I : Inv g N ln S s H locs) {r : Nat} (hr : r < N) (hk : kd r = 9) (hdg : decode cc pc = .ok (.arraylength, 1)) {K : Int32 → Prop} (h : lt_ (nI (ln r)) K)
    (kk : ∀ v, K v → W p l e R s m args below meth c H locs cells slots Q (F0 m (pc + 1) ls (.int v :: rest))) : W p l e R s m args below meth c H locs cells slots Q (F0 m pc ls (.ref (gz g + r) :: rest)) :=
  va_alen F.1 F.2.1 I.K I.P r 0 (wl_eq hr (ce_i hk (Or.inl rfl))) rfl (v := nI (ln r)) rfl hdg (kk _ h)
/-- a write of an int place -/
theorem r_ast0 (I : Inv g N ln S s H locs) {r q : Nat} (hr : r < N) (hk : kd r = q) (hq : q = 9 ∨ q = 11 ∨ q = 12) {j : Nat} {x : Int32} {H1 : Heap} (e1 : H1[gz g + r]? = some ((arrV (gA g q) (ln r) (fun j => .int (hI S r j))).setSlot j (.int x))) (e2 : H1.size = H.size) (e3 : ∀ q, q ≠ gz g + r → H1[q]? = H[q]?) : Inv g N ln (sI S r j x) s H1 (locs ++ [⟨gz g + r, j⟩]) := by
  refine I.wr2 hr ?_ e2 e3 ce_sI (I.T.sI r j x)
  rw [ce_i hk hq]
  show H1[gz g + r]? = some (vp_cell _ _)
  rw [vp_cell_i]
  rw [e1, arrV_store]
  congr 2
  funext b
  by_cases hb : b = j
  · subst hb; simp [updV, hI, sI, up2]
  · simp [updV, hI, sI, up2, hb]
theorem r_ast (F : CallFix p m c cc nL s args gtbl own) (I : Inv g N ln S s H locs) {r : Nat} (hr : r < N) (hk : kd r = 9) (hdg : decode cc pc = .ok (.iastore, 1)) {i x : Int32} {K : HC → Prop} (h : as_ (ln r) i (fun j => sI S r j x) K)
    (kk : ∀ (S1 : HC) (H1 : Heap) (locs1 : List Loc), Inv g N ln S1 s H1 locs1 → K S1 → W p l e R s m args below meth c H1 locs1 cells slots Q (F0 m (pc + 1) ls rest)) : W p l e R s m args below meth c H locs cells slots Q (F0 m pc ls (.int x :: .int i :: .ref (gz g + r) :: rest)) := by
  refine W.iast F.1 F.2.1 (I.P r _ (wl_eq hr (ce_i hk (Or.inl rfl)))) ((I.K.2 0 _ rfl).1 (ln r) (fun j => .int (hI S r j))) (fun q => by cases q) (by show ¬ (i < 0 ∨ (arrV _ _ _).slots.size ≤ _); rw [arrV_size]; exact h.1) rfl rfl hdg fun H1 e1 e2 e3 => kk _ H1 _ (r_ast0 I hr hk (Or.inl rfl) e1 e2 e3) h.2
theorem r_zast (F : CallFix p m c cc nL s args gtbl own) (I : Inv g N ln S s H locs) {r : Nat} (hr : r < N) (hk : kd r = 11) (hdg : decode cc pc = .ok (.bastore, 1)) {i x : Int32} {K : HC → Prop} (h : as_ (ln r) i (fun j => sI S r j (vp_nar .boolean x)) K)
    (kk : ∀ (S1 : HC) (H1 : Heap) (locs1 : List Loc), Inv g N ln S1 s H1 locs1 → K S1 → W p l e R s m args below meth c H1 locs1 cells slots Q (F0 m (pc + 1) ls rest)) : W p l e R s m args below meth c H locs cells slots Q (F0 m pc ls (.int x :: .int i :: .ref (gz g + r) :: rest)) := by
  refine W.zast F.1 F.2.1 (I.P r _ (wl_eq hr (ce_i hk (Or.inr (Or.inl rfl))))) ((I.K.2 2 _ rfl).1 (ln r) (fun j => .int (hI S r j))) (fun q => by cases q) (by show ¬ (i < 0 ∨ (arrV _ _ _).slots.size ≤ _); rw [arrV_size]; exact h.1) rfl rfl hdg fun H1 e1 e2 e3 => kk _ H1 _ (r_ast0 I hr hk (Or.inr (Or.inl rfl)) e1 e2 e3) h.2
theorem r_cast (F : CallFix p m c cc nL s args gtbl own) (I : Inv g N ln S s H locs) {r : Nat} (hr : r < N) (hk : kd r = 12) (hdg : decode cc pc = .ok (.castore, 1)) {i x : Int32} {K : HC → Prop} (h : as_ (ln r) i (fun j => sI S r j (vp_nar .char x)) K)
    (kk : ∀ (S1 : HC) (H1 : Heap) (locs1 : List Loc), Inv g N ln S1 s H1 locs1 → K S1 → W p l e R s m args below meth c H1 locs1 cells slots Q (F0 m (pc + 1) ls rest)) : W p l e R s m args below meth c H locs cells slots Q (F0 m pc ls (.int x :: .int i :: .ref (gz g + r) :: rest)) := by
  refine W.cast F.1 F.2.1 (I.P r _ (wl_eq hr (ce_i hk (Or.inr (Or.inr rfl))))) ((I.K.2 3 _ rfl).1 (ln r) (fun j => .int (hI S r j))) (fun q => by cases q) (by show ¬ (i < 0 ∨ (arrV _ _ _).slots.size ≤ _); rw [arrV_size]; exact h.1) rfl rfl hdg fun H1 e1 e2 e3 => kk _ H1 _ (r_ast0 I hr hk (Or.inr (Or.inr rfl)) e1 e2 e3) h.2
theorem r_last (F : CallFix p m c cc nL s args gtbl own) (I : Inv g N ln S s H locs) {r : Nat} (hr : r < N) (hk : kd r = 10) (hdg : decode cc pc = .ok (.lastore, 1)) {i : Int32} {x : Int64} {K : HC → Prop} (h : as_ (ln r) i (fun j => sJ S r j x) K)
    (kk : ∀ (S1 : HC) (H1 : Heap) (locs1 : List Loc), Inv g N ln S1 s H1 locs1 → K S1 → W p l e R s m args below meth c H1 locs1 cells slots Q (F0 m (pc + 1) ls rest)) : W p l e R s m args below meth c H locs cells slots Q (F0 m pc ls (.long x :: .int i :: .ref (gz g + r) :: rest)) := by
  refine W.last F.1 F.2.1 (I.P r _ (wl_eq hr (ce_j hk))) ((I.K.2 1 _ rfl).1 (ln r) (fun j => .long (hJ S r j))) (fun q => by cases q) (by show ¬ (i < 0 ∨ (arrV _ _ _).slots.size ≤ _); rw [arrV_size]; exact h.1) rfl rfl hdg fun H1 e1 e2 e3 => kk _ H1 _ (I.wr2 hr ?_ e2 e3 ce_sJ (I.T.sJ r _ x)) h.2
  rw [ce_j hk]
  show H1[gz g + r]? = some (vp_cell _ _)
  rw [vp_cell_l]
  rw [e1]
  show some ((arrV _ _ _).setSlot _ _) = _
  rw [arrV_store]
  congr 2
  funext b
  by_cases hb : b = i.toNatClampNeg
  · subst hb; simp [updV, hJ, sJ, up2]
  · simp [updV, hJ, sJ, up2, hb]
theorem r_astR0 (I : Inv g N ln S s H locs) {r q f : Nat} (hr : r < N) (hk : kd r = q) (hq : 13 ≤ q ∧ q ≤ 15) (hf : fk q 0 = f) {j : Nat} {o : Option Nat} (ho : ∀ b, o = some b → b < N ∧ kd b = f) {H1 : Heap} (e1 : H1[gz g + r]? = some ((arrV (gA g q) (ln r) (fun j => va_rf ((hR S r j).map (gz g + ·)))).setSlot j (va_rf (o.map (gz g + ·))))) (e2 : H1.size = H.size) (e3 : ∀ q, q ≠ gz g + r → H1[q]? = H[q]?) : Inv g N ln (sR S r j o) s H1 (locs ++ [⟨gz g + r, j⟩]) := by
  have e : ∀ j, fk q j = f := by
    intro j
    rcases (show q = 13 ∨ q = 14 ∨ q = 15 by omega) with rfl | rfl | rfl <;> exact hf
  refine I.wr2 hr ?_ e2 e3 ce_sR (I.T.sR (fun b hb => by rw [hk, e]; exact ho b hb))
  rw [ce_r hk hq.1]
  show H1[gz g + r]? = some (vp_cell _ _)
  rw [vp_cell_q]
  rw [e1, arrV_store]
  congr 2
  funext b
  by_cases hb : b = j
  · subst hb; simp [updV, hR, sR, up2]
  · simp [updV, hR, sR, up2, hb]
theorem r_astO (F : CallFix p m c cc nL s args gtbl own) (I : Inv g N ln S s H locs) {r q f : Nat} (hr : r < N) (hk : kd r = q) (hq : 13 ≤ q ∧ q ≤ 15) (hf : fk q 0 = f) {o : Option Nat} (ho : ∀ b, o = some b → b < N ∧ kd b = f) (hdg : decode cc pc = .ok (.aastore, 1)) {i : Int32} {K : HC → Prop} (h : as_ (ln r) i (fun j => sR S r j o) K)
    (kk : ∀ (S1 : HC) (H1 : Heap) (locs1 : List Loc), Inv g N ln S1 s H1 locs1 → K S1 → W p l e R s m args below meth c H1 locs1 cells slots Q (F0 m (pc + 1) ls rest)) : W p l e R s m args below meth c H locs cells slots Q (F0 m pc ls (va_rf (o.map (gz g + ·)) :: .int i :: .ref (gz g + r) :: rest)) := by
  obtain ⟨C, hC, hCn⟩ := tyL_at (cA := gA g) hq.1 hq.2
  have hcell : H[gz g + r]? = some (arrV (gA g q) (ln r) (fun j => va_rf ((hR S r j).map (gz g + ·)))) := I.P r _ (wl_eq hr (ce_r hk hq.1))
  cases o with
  | none =>
    refine va_WaastN (C := C) F.1 F.2.1 hcell ((I.K.2 (q - 9) _ hC).1 (ln r) _) (fun h => by cases h) (by show ¬ (i < 0 ∨ (arrV _ _ _).slots.size ≤ _); rw [arrV_size]; exact h.1) rfl rfl hdg fun H1 e1 e2 e3 => kk _ H1 _ (r_astR0 I hr hk hq hf (o := none) ho e1 e2 e3) h.2
  | some b =>
    obtain ⟨hbN, hkb⟩ := ho b rfl
    have hlt : i.toNatClampNeg < ln r := Nat.not_le.mp fun q => h.1 (Or.inr q)
    have h0 : ¬ i < 0 := fun q => h.1 (Or.inl q)
    have hcl : ∃ n T, vwCl[f]? = some (C, T, n) ∧ f < 9 := by
      rw [hCn, ← hf]
      rcases (show q = 13 ∨ q = 14 ∨ q = 15 by omega) with rfl | rfl | rfl <;> exact ⟨_, _, rfl, by decide⟩
    obtain ⟨n, T, hc, h9⟩ := hcl
    obtain ⟨r', hr', cellV, g1, g2, g3, -⟩ := I.P b _ (wl_eq hbN (ce_o hkb h9))
    have hcls := (I.K.1 f _ hc).2
    obtain ⟨kA, comp, k1, k2, k3, -⟩ := (I.K.2 (q - 9) _ hC).2
    have hcomp : comp = (gD g).1 f := Option.some.inj (k3.symm.trans hcls.1)
    subst hcomp
    obtain ⟨kC, hkC, -⟩ := hcls.2
    refine W.aast F.1 F.2.1 hcell (fun q h => by cases h) (fun h => by cases h) k1 k2 rfl hkC ⟨h0, by show _ < (arrV _ _ _).slots.size; rw [arrV_size]; exact hlt⟩ g1 (fun q h => by rw [g3] at h; cases h) (by rw [g2]; exact hkC) (by rw [g2]; exact va_assign hcls) rfl rfl hdg fun H1 e1 e2 e3 => kk _ H1 _ (r_astR0 I hr hk hq hf (o := some b) ho e1 e2 e3) h.2
theorem r_astN (F : CallFix p m c cc nL s args gtbl own) (I : Inv g N ln S s H locs) {r q f b : Nat} (hr : r < N) (hk : kd r = q) (hq : 13 ≤ q ∧ q ≤ 15) (hf : fk q 0 = f) (hb : b < N) (hkb : kd b = f) (hdg : decode cc pc = .ok (.aastore, 1)) {i : Int32} {K : HC → Prop} (h : as_ (ln r) i (fun j => sR S r j (some b)) K)
    (kk : ∀ (S1 : HC) (H1 : Heap) (locs1 : List Loc), Inv g N ln S1 s H1 locs1 → K S1 → W p l e R s m args below meth c H1 locs1 cells slots Q (F0 m (pc + 1) ls rest)) : W p l e R s m args below meth c H locs cells slots Q (F0 m pc ls (.ref (gz g + b) :: .int i :: .ref (gz g + r) :: rest)) :=
  r_astO (o := some b) F I hr hk hq hf (fun b' e => by cases e; exact ⟨hb, hkb⟩) hdg h kk
end RW
