/-! THE HEAP BY NUMBERS: the cells that the run makes, in the order of their making: cell r lies at z0 + r. kinds: 0 .. 8 objects by vwCl, 9 int[], 10 long[], 11 boolean[], 12 char[], 13 Law[], 14 Row[], 15 Slot[] -/
abbrev HC : Type := (Nat → Nat → Int32) × (Nat → Nat → Option Nat) × (Nat → Nat → Int64)
def up2 {α : Type} (f : Nat → Nat → α) (r k : Nat) (v : α) : Nat → Nat → α := fun a b => if a = r ∧ b = k then v else f a b
def up1 {α : Type} (f : Nat → Nat → α) (r : Nat) (v : Nat → α) : Nat → Nat → α := fun a => if a = r then v else f a
def hI (S : HC) (r k : Nat) : Int32 := S.1 r k
def hR (S : HC) (r k : Nat) : Option Nat := S.2.1 r k
def hJ (S : HC) (r k : Nat) : Int64 := S.2.2 r k
def sI (S : HC) (r k : Nat) (v : Int32) : HC := (up2 S.1 r k v, S.2.1, S.2.2)
def sR (S : HC) (r k : Nat) (v : Option Nat) : HC := (S.1, up2 S.2.1 r k v, S.2.2)
def sJ (S : HC) (r k : Nat) (v : Int64) : HC := (S.1, S.2.1, up2 S.2.2 r k v)
def sC (S : HC) (r1 sp r2 dp n : Nat) : HC := (up1 S.1 r2 (va_cpy (S.1 r1) (S.1 r2) sp dp n), S.2.1, S.2.2)
def nw (S : HC) (r : Nat) : HC := (up1 S.1 r (fun _ => 0), up1 S.2.1 r (fun _ => none), up1 S.2.2 r (fun _ => 0))
def kdL : List Nat := [7, 0, 9, 9, 9, 9, 9, 9, 13, 0, 9, 9, 9, 9, 9, 9, 13, 0, 9, 9, 9, 9, 9, 9, 13, 4, 9, 10, 9, 0, 9, 9, 9, 9, 9, 9, 13, 2, 6, 9, 9, 14, 15, 9, 9, 3, 9, 3, 9, 3, 9, 3, 9, 5, 3, 9, 5, 3, 9, 5, 3, 9, 5, 3, 9, 5, 3, 9, 8, 9, 9, 9, 9, 9, 9, 12, 9, 9, 9, 11, 9, 9, 9, 9, 9, 9, 9, 9, 9, 9, 9]
def kd (r : Nat) : Nat := if r < 91 then kdL.getD r 0 else if r % 2 = 1 then 9 else 1
def nf (c : Nat) : Nat := [12, 3, 11, 3, 6, 5, 2, 11, 34].getD c 0
/-- the kind of what a field, or an array's place, refers to; 99: it's a number -/
def fkL : List (List Nat) := [[9, 9, 9, 9, 9, 9, 99, 99, 99, 99, 13, 99], [99, 99, 9], [6, 99, 99, 99, 99, 9, 99, 99, 99, 99, 99], [99, 99, 9], [9, 10, 9, 0, 1, 99], [99, 99, 99, 99, 3], [9, 99], [0, 0, 99, 0, 4, 2, 14, 15, 9, 99, 9], [9, 9, 9, 99, 9, 9, 9, 99, 99, 99, 99, 99, 99, 99, 12, 9, 9, 99, 99, 9, 99, 11, 9, 9, 9, 9, 9, 9, 9, 9, 9, 9, 9, 99]]
def fk (c k : Nat) : Nat := if c = 13 then 1 else if c = 14 then 3 else if c = 15 then 5 else (fkL.getD c []).getD k 99
abbrev GX : Type := va_G × (Nat → ClassId) × Nat × (Nat → Nat) × (Nat → Nat) × Nat
abbrev gD (g : GX) : va_G := g.1
abbrev gA (g : GX) : Nat → ClassId := g.2.1
abbrev gz (g : GX) : Nat := g.2.2.1
abbrev gK (g : GX) : Nat → Nat := g.2.2.2.1
abbrev gV (g : GX) : Nat → Nat := g.2.2.2.2.1
abbrev gT (g : GX) : Nat := g.2.2.2.2.2
abbrev gF (g : GX) : Nat → Prop := fun q => gz g ≤ q
def fv (z0 : Nat) (S : HC) (r c k : Nat) : Value := if fk c k = 99 then .int (hI S r k) else va_rf ((hR S r k).map (z0 + ·))
def fl (z0 : Nat) (S : HC) (r c : Nat) : List Value := (List.range (nf c)).map (fv z0 S r c)
def ar (z0 : Nat) (ln : Nat → Nat) (S : HC) (r c : Nat) : vp_A := (ln r, if c = 10 then .inr (.inl (hJ S r)) else if c < 13 then .inl (hI S r) else .inr (.inr (.inr (.inr (fun j => (hR S r j).map (z0 + ·))))))
def ce (z0 : Nat) (cA : Nat → ClassId) (ln : Nat → Nat) (S : HC) (r : Nat) : va_E := if kd r < 9 then .inr (kd r, fl z0 S r (kd r)) else .inl (cA (kd r), ar z0 ln S r (kd r))
def wl (z0 : Nat) (cA : Nat → ClassId) (N : Nat) (ln : Nat → Nat) (S : HC) : va_W := (List.range N).map (fun r => (z0 + r, ce z0 cA ln S r))
def tyL (cA : Nat → ClassId) : List (ClassId × FieldType) := [(cA 9, .int), (cA 10, .long), (cA 11, .boolean), (cA 12, .char), (cA 13, .object "LionShield$Law"), (cA 14, .object "LionShield$Row"), (cA 15, .object "LionShield$Slot")]
theorem wl_at {z0 N r : Nat} {cA : Nat → ClassId} {ln : Nat → Nat} {S : HC} (h : r < N) : (wl z0 cA N ln S)[r]? = some (z0 + r, ce z0 cA ln S r) := by
  simp [wl, h]
theorem wl_len {z0 N : Nat} {cA : Nat → ClassId} {ln : Nat → Nat} {S : HC} : (wl z0 cA N ln S).length = N := by simp [wl]
theorem wl_in {z0 N k : Nat} {cA : Nat → ClassId} {ln : Nat → Nat} {S : HC} {q : Nat × va_E} (h : (wl z0 cA N ln S)[k]? = some q) : k < N ∧ q = (z0 + k, ce z0 cA ln S k) := by
  have hk : k < N := by
    have := (List.getElem?_eq_some_iff.mp h).1
    rwa [wl_len] at this
  rw [wl_at hk] at h
  exact ⟨hk, (Option.some.inj h).symm⟩
theorem wl_set {z0 N r : Nat} {cA : Nat → ClassId} {ln ln' : Nat → Nat} {S S' : HC} {e : va_E} (h : r < N) (he : e = ce z0 cA ln' S' r) (ho : ∀ a, a ≠ r → ce z0 cA ln' S' a = ce z0 cA ln S a) : (wl z0 cA N ln S).set r (z0 + r, e) = wl z0 cA N ln' S' := by
  subst he
  apply List.ext_getElem?
  intro k
  by_cases hk : k < N
  · rw [wl_at hk]
    by_cases hkr : k = r
    · subst hkr
      rw [List.getElem?_set_self (by rw [wl_len]; exact hk)]
    · rw [List.getElem?_set_ne (Ne.symm hkr), wl_at hk, ho k hkr]
  · rw [List.getElem?_eq_none (by rw [List.length_set, wl_len]; omega), List.getElem?_eq_none (by rw [wl_len]; omega)]
theorem wl_push {z0 N : Nat} {cA : Nat → ClassId} {ln ln' : Nat → Nat} {S S' : HC} {e : va_E} (he : e = ce z0 cA ln' S' N) (ho : ∀ a, a < N → ce z0 cA ln' S' a = ce z0 cA ln S a) : wl z0 cA N ln S ++ [(z0 + N, e)] = wl z0 cA (N + 1) ln' S' := by
  subst he
  rw [wl, wl, List.range_succ, List.map_append]
  congr 1
  apply List.map_congr_left
  intro a ha
  rw [ho a (List.mem_range.mp ha)]
theorem wl_D {z0 N : Nat} {cA : Nat → ClassId} {ln : Nat → Nat} {S : HC} : va_D (fun q => z0 ≤ q) (wl z0 cA N ln S) := by
  refine ⟨fun i j p q h1 h2 h3 => ?_, fun k q h => ?_⟩
  · obtain ⟨a1, a2⟩ := wl_in h1
    obtain ⟨b1, b2⟩ := wl_in h2
    subst a2; subst b2
    simp only at h3
    omega
  · obtain ⟨a1, a2⟩ := wl_in h
    subst a2
    show z0 ≤ z0 + k
    omega
/-- every reference is to a cell that is there, of the kind that its place has -/
def WT (N : Nat) (S : HC) : Prop := ∀ r k b, r < N → hR S r k = some b → fk (kd r) k ≠ 99 → b < N ∧ kd b = fk (kd r) k
theorem WT.at {N : Nat} {S : HC} (h : WT N S) {r k b c f : Nat} (hr : r < N) (hk : kd r = c) (hf : fk c k = f) (h9 : f ≠ 99) (hb : hR S r k = some b) : b < N ∧ kd b = f := by
  subst hk; subst hf
  exact h r k b hr hb h9
theorem WT.sI {N : Nat} {S : HC} (h : WT N S) (r k : Nat) (v : Int32) : WT N (sI S r k v) := h
theorem WT.sJ {N : Nat} {S : HC} (h : WT N S) (r k : Nat) (v : Int64) : WT N (sJ S r k v) := h
theorem WT.sC {N : Nat} {S : HC} (h : WT N S) (a b c d e : Nat) : WT N (sC S a b c d e) := h
theorem WT.sR {N : Nat} {S : HC} (h : WT N S) {r k : Nat} {o : Option Nat} (ho : ∀ b, o = some b → b < N ∧ kd b = fk (kd r) k) : WT N (sR S r k o) := by
  intro r2 k2 b hr hb h9
  have hb' : (if r2 = r ∧ k2 = k then o else hR S r2 k2) = some b := hb
  by_cases e : r2 = r ∧ k2 = k
  · rw [if_pos e] at hb'
    obtain ⟨e1, e2⟩ := e
    subst e1; subst e2
    exact ho b hb'
  · rw [if_neg e] at hb'
    exact h r2 k2 b hr hb' h9
theorem WT.nw {N : Nat} {S : HC} (h : WT N S) : WT (N + 1) (nw S N) := by
  intro r k b hr hb h9
  have hb' : (if r = N then (fun _ => none) else S.2.1 r) k = some b := hb
  by_cases e : r = N
  · rw [if_pos e] at hb'; cases hb'
  · rw [if_neg e] at hb'
    obtain ⟨q1, q2⟩ := h r k b (by omega) hb' h9
    exact ⟨by omega, q2⟩
theorem ce_sI {z0 r : Nat} {cA : Nat → ClassId} {ln : Nat → Nat} {S : HC} {k : Nat} {v : Int32} : ∀ a, a ≠ r → ce z0 cA ln (sI S r k v) a = ce z0 cA ln S a := by
  intro a ha
  have e : hI (sI S r k v) a = hI S a := by funext b; simp [hI, sI, up2, ha]
  simp only [ce, fl, ar]
  have e2 : fv z0 (sI S r k v) a (kd a) = fv z0 S a (kd a) := by funext b; simp only [fv, e]; rfl
  rw [e, e2]; rfl
theorem ce_sJ {z0 r : Nat} {cA : Nat → ClassId} {ln : Nat → Nat} {S : HC} {k : Nat} {v : Int64} : ∀ a, a ≠ r → ce z0 cA ln (sJ S r k v) a = ce z0 cA ln S a := by
  intro a ha
  have e : hJ (sJ S r k v) a = hJ S a := by funext b; simp [hJ, sJ, up2, ha]
  simp only [ce, fl, ar]
  have e2 : fv z0 (sJ S r k v) a (kd a) = fv z0 S a (kd a) := rfl
  rw [e, e2]; rfl
theorem ce_sR {z0 r : Nat} {cA : Nat → ClassId} {ln : Nat → Nat} {S : HC} {k : Nat} {v : Option Nat} : ∀ a, a ≠ r → ce z0 cA ln (sR S r k v) a = ce z0 cA ln S a := by
  intro a ha
  have e : hR (sR S r k v) a = hR S a := by funext b; simp [hR, sR, up2, ha]
  simp only [ce, fl, ar]
  have e2 : fv z0 (sR S r k v) a (kd a) = fv z0 S a (kd a) := by funext b; simp only [fv, e]; rfl
  rw [e, e2]; rfl
theorem ce_sC {z0 r r1 sp dp n : Nat} {cA : Nat → ClassId} {ln : Nat → Nat} {S : HC} : ∀ a, a ≠ r → ce z0 cA ln (sC S r1 sp r dp n) a = ce z0 cA ln S a := by
  intro a ha
  have e : hI (sC S r1 sp r dp n) a = hI S a := by funext b; simp [hI, sC, up1, ha]
  simp only [ce, fl, ar]
  have e2 : fv z0 (sC S r1 sp r dp n) a (kd a) = fv z0 S a (kd a) := by funext b; simp only [fv, e]; rfl
  rw [e, e2]; rfl
theorem ce_nw {z0 r n : Nat} {cA : Nat → ClassId} {ln : Nat → Nat} {S : HC} : ∀ a, a ≠ r → ce z0 cA (va_up ln r n) (nw S r) a = ce z0 cA ln S a := by
  intro a ha
  have e1 : hI (nw S r) a = hI S a := by funext b; simp [hI, nw, up1, ha]
  have e2 : hR (nw S r) a = hR S a := by funext b; simp [hR, nw, up1, ha]
  have e3 : hJ (nw S r) a = hJ S a := by funext b; simp [hJ, nw, up1, ha]
  have e4 : va_up ln r n a = ln a := va_up_ne _ _ ha
  have e5 : fv z0 (nw S r) a (kd a) = fv z0 S a (kd a) := by funext b; simp only [fv, e1, e2]
  simp only [ce, fl, ar, e1, e2, e3, e4, e5]
theorem ce_o {z0 r c : Nat} {cA : Nat → ClassId} {ln : Nat → Nat} {S : HC} (h : kd r = c) (h9 : c < 9) : ce z0 cA ln S r = .inr (c, fl z0 S r c) := by
  subst h; simp only [ce, if_pos h9]
theorem ce_i {z0 r c : Nat} {cA : Nat → ClassId} {ln : Nat → Nat} {S : HC} (h : kd r = c) (hc : c = 9 ∨ c = 11 ∨ c = 12) : ce z0 cA ln S r = .inl (cA c, ln r, .inl (hI S r)) := by
  subst h
  simp only [ce, ar]
  rw [if_neg (by omega), if_neg (by omega), if_pos (by omega)]
theorem ce_j {z0 r : Nat} {cA : Nat → ClassId} {ln : Nat → Nat} {S : HC} (h : kd r = 10) : ce z0 cA ln S r = .inl (cA 10, ln r, .inr (.inl (hJ S r))) := by
  simp only [ce, ar, h]
  rw [if_neg (by omega)]; rfl
theorem ce_r {z0 r c : Nat} {cA : Nat → ClassId} {ln : Nat → Nat} {S : HC} (h : kd r = c) (hc : 13 ≤ c) : ce z0 cA ln S r = .inl (cA c, ln r, .inr (.inr (.inr (.inr (fun j => (hR S r j).map (z0 + ·)))))) := by
  subst h
  simp only [ce, ar]
  rw [if_neg (by omega), if_neg (by omega), if_neg (by omega)]
theorem fl_at {z0 r c k : Nat} {S : HC} (hk : k < nf c) : (fl z0 S r c)[k]? = some (fv z0 S r c k) := by
  simp [fl, hk]
theorem fl_len {z0 r c : Nat} {S : HC} : (fl z0 S r c).length = nf c := by simp [fl]
theorem fl_set {z0 r c k : Nat} {S S' : HC} {v : Value} (hk : k < nf c) (hv : v = fv z0 S' r c k) (ho : ∀ j, j ≠ k → fv z0 S' r c j = fv z0 S r c j) : (fl z0 S r c).set k v = fl z0 S' r c := by
  subst hv
  apply List.ext_getElem?
  intro j
  by_cases hj : j < nf c
  · rw [fl_at hj]
    by_cases e : j = k
    · subst e
      rw [List.getElem?_set_self (by rw [fl_len]; exact hj)]
    · rw [List.getElem?_set_ne (Ne.symm e), fl_at hj, ho j e]
  · rw [List.getElem?_eq_none (by rw [List.length_set, fl_len]; omega), List.getElem?_eq_none (by rw [fl_len]; omega)]
/-- what stands below z0 and isn't written: links of nest mates, classes of arrays, the table KIND_ABOVE, the texts -/
def nestW : List Cond := [Cond.methodLinkNest RX7 9 yX0_init RX7, Cond.methodLinkNest RX7 28 yX4_init RX7, Cond.methodLinkNest RX4 24 yX0_init RX7, Cond.methodLinkNest RX7 35 yX2_init RX7, Cond.methodLinkNest RX2 11 yX6_init RX7, Cond.methodLinkNest RX7 63 yX3_init RX7, Cond.methodLinkNest RX7 64 yX5_init RX7, Cond.methodLinkNest RX5 26 yX3_init RX7, Cond.methodLinkNest RX4 99 yX7_isCharge RX7, Cond.methodLinkNest RX4 96 yX7_within RX7]
def strK : List Nat := [79, 85, 87, 122, 124, 126]
def strT : List String := ["join", "fee", "fine", "fmn", "yp", "ab"]
def strL : List Nat := [4, 3, 4, 3, 2, 2]
def strB : List (List Int32) := [[106, 111, 105, 110], [102, 101, 101], [102, 105, 110, 101], [102, 109, 110], [121, 112], [97, 98]]
def kaL : List Int32 := [-1, 0, 0, 1, 2, 0]
def OldV (g : GX) (U : State) : Prop := (∀ w ∈ nestW, va_Nw w U) ∧ (va_AO "LionShield$Law" U ∧ va_AO "LionShield$Row" U ∧ va_AO "LionShield$Slot" U) ∧ ∀ i, i < 6 → vk_R RX2 (strK.getD i 0) (strT.getD i "") (gK g i) U
def OldH (g : GX) (U : State) (H : Heap) : Prop := (va_Z "LionShield" "KIND_ABOVE" "[I" (.ref (gT g)) (gF g) U H ∧ va_T .int (gT g) 6 (fun j => .int (kaL.getD j 0)) (gF g) U H) ∧ vk_S 6 strL strB (gK g) (gV g) (gF g) U H ∧ va_Z "java/lang/String" "COMPACT_STRINGS" "Z" (.int 1) (gF g) U H ∧ va_Zq "jdk/internal/util/Preconditions" "SIOOBE_FORMATTER" "Ljava/util/function/BiFunction;" (gF g) U H
theorem nestW_m : ∀ w ∈ nestW, ∃ (a : String) (i : Nat) (x : MethodName) (h : String), w = .methodLinkNest a i x h := by
  intro w hw
  simp only [nestW, List.mem_cons, List.not_mem_nil, or_false] at hw
  rcases hw with h | h | h | h | h | h | h | h | h | h <;> exact ⟨_, _, _, _, h⟩
theorem OldV.warm {g : GX} {s U : State} (hW : s.WarmedH U.vm) (h : OldV g s) : OldV g U := by
  refine ⟨fun w hw => ?_, ⟨va_AO.moved hW.alike h.2.1.1, va_AO.moved hW.alike h.2.1.2.1, va_AO.moved hW.alike h.2.1.2.2⟩, fun i hi => (h.2.2 i hi).warm hW⟩
  obtain ⟨a, i, x, k, e⟩ := nestW_m w hw
  have h1 := h.1 w hw
  rw [e] at h1 ⊢
  exact va_Nw.warmM hW h1
theorem OldV.same {g : GX} {u U : State} (hv : U.vm = u.vm) (h : OldV g u) : OldV g U := by
  refine ⟨fun w hw => ?_, ⟨va_AO.moved (by rw [hv]; exact Vm.Alike.refl _) h.2.1.1, va_AO.moved (by rw [hv]; exact Vm.Alike.refl _) h.2.1.2.1, va_AO.moved (by rw [hv]; exact Vm.Alike.refl _) h.2.1.2.2⟩, fun i hi => (h.2.2 i hi).same hv⟩
  obtain ⟨a, i, x, k, e⟩ := nestW_m w hw
  have h1 := h.1 w hw
  rw [e] at h1 ⊢
  exact va_Nw.same rfl hv.symm h1
theorem OldH.moved {g : GX} {u U : State} {H : Heap} (hvm : u.vm.Alike U.vm) (h : OldH g u H) : OldH g U H := ⟨⟨va_Z.moved hvm h.1.1, va_T.moved hvm h.1.2⟩, vk_S.moved hvm h.2.1, va_Z.moved hvm h.2.2.1, va_Zq.moved hvm h.2.2.2⟩
theorem OldH.kept {g : GX} {U : State} {H H1 : Heap} (h : OldH g U H) (hq : ∀ a : Nat, a < H.size → ¬ gF g a → H1[a]? = H[a]?) : OldH g U H1 := ⟨⟨h.1.1.kept hq, h.1.2.kept hq⟩, h.2.1.kept hq, h.2.2.1.kept hq, h.2.2.2.kept hq⟩
/-- the world behind a method, and ahead of it -/
def AtQ (g : GX) (N : Nat) (ln : Nat → Nat) (S : HC) (U : State) : Prop := (va_K (gD g) vwCl (tyL (gA g)) U ∧ va_P (gD g) vwCl (wl (gz g) (gA g) N ln S) U.heap) ∧ U.heap.size = gz g + N ∧ WT N S
def AtP (g : GX) (N : Nat) (ln : Nat → Nat) (S : HC) (U : State) : Prop := AtQ g N ln S U ∧ OldV g U ∧ OldH g U U.heap
/-- the world within a method that began at s -/
def Inv (g : GX) (N : Nat) (ln : Nat → Nat) (S : HC) (s : State) (H : Heap) (locs : List Loc) : Prop := (va_K (gD g) vwCl (tyL (gA g)) s ∧ va_P (gD g) vwCl (wl (gz g) (gA g) N ln S) H) ∧ (H.size = gz g + N ∧ WT N S) ∧ (OldV g s ∧ OldH g s s.heap ∧ gz g ≤ s.heap.size) ∧ va_S (gF g) s.heap H locs
theorem Inv.K {g : GX} {N : Nat} {ln : Nat → Nat} {S : HC} {s : State} {H : Heap} {locs : List Loc} (h : Inv g N ln S s H locs) : va_K (gD g) vwCl (tyL (gA g)) s := h.1.1
theorem Inv.P {g : GX} {N : Nat} {ln : Nat → Nat} {S : HC} {s : State} {H : Heap} {locs : List Loc} (h : Inv g N ln S s H locs) : va_P (gD g) vwCl (wl (gz g) (gA g) N ln S) H := h.1.2
theorem Inv.sz {g : GX} {N : Nat} {ln : Nat → Nat} {S : HC} {s : State} {H : Heap} {locs : List Loc} (h : Inv g N ln S s H locs) : H.size = gz g + N := h.2.1.1
theorem Inv.T {g : GX} {N : Nat} {ln : Nat → Nat} {S : HC} {s : State} {H : Heap} {locs : List Loc} (h : Inv g N ln S s H locs) : WT N S := h.2.1.2
theorem Inv.S {g : GX} {N : Nat} {ln : Nat → Nat} {S : HC} {s : State} {H : Heap} {locs : List Loc} (h : Inv g N ln S s H locs) : va_S (gF g) s.heap H locs := h.2.2.2
theorem Inv.at {g : GX} {N : Nat} {ln : Nat → Nat} {S : HC} {s : State} {H : Heap} {locs : List Loc} (h : Inv g N ln S s H locs) {r k b c f : Nat} (hr : r < N) (hk : kd r = c) (hf : fk c k = f) (h9 : f ≠ 99) (hb : hR S r k = some b) : b < N ∧ kd b = f := h.T.at hr hk hf h9 hb
theorem Inv.of {g : GX} {N : Nat} {ln : Nat → Nat} {S : HC} {s : State} (h : AtP g N ln S s) : Inv g N ln S s s.heap [] := ⟨h.1.1, h.1.2, ⟨h.2.1, h.2.2, by have := h.1.2.1; omega⟩, va_S.rf⟩
/-- ahead of a call: the world as the callee finds it -/
theorem Inv.atP {g : GX} {N : Nat} {ln : Nat → Nat} {S : HC} {s U : State} {H : Heap} {locs : List Loc} (h : Inv g N ln S s H locs) (hU : U.heap = H) (hW : s.WarmedH U.vm) : AtP g N ln S U := by
  refine ⟨⟨⟨va_K.moved hW.alike h.K, by rw [hU]; exact h.P⟩, by rw [hU]; exact h.sz, h.T⟩, h.2.2.1.1.warm hW, ?_⟩
  rw [hU]
  exact (OldH.moved hW.alike h.2.2.1.2.1).kept (fun a h1 h2 => h.S.2.1 a h1 h2)
theorem AtP.blind {g : GX} {N : Nat} {ln : Nat → Nat} {S : HC} {av : List Value} : FrameBlind (va_Pc av (AtP g N ln S)) := by
  intro a U f mk h
  obtain ⟨h0, ⟨⟨h1, h2⟩, h3⟩, h4, h5⟩ := h
  exact ⟨h0, ⟨⟨va_K.moved (u := U) (U := U.calling f mk a) (Vm.Alike.refl U.vm) h1, h2⟩, h3⟩, OldV.same (u := U) (U := U.calling f mk a) rfl h4, OldH.moved (u := U) (U := U.calling f mk a) (Vm.Alike.refl U.vm) h5⟩
/-- behind a call -/
theorem Inv.back {g : GX} {N N' : Nat} {ln ln' : Nat → Nat} {S S' : HC} {s t : State} {H H1 : Heap} {locs locs1 : List Loc} (h : Inv g N ln S s H locs) (hB : AtQ g N' ln' S' t) (ht : t.heap = H1) (hvm : s.vm.Alike t.vm) (hS : va_S (gF g) s.heap H1 locs1) : Inv g N' ln' S' s H1 locs1 :=
  ⟨⟨va_K.moved hvm.symm hB.1.1, by rw [← ht]; exact hB.1.2⟩, ⟨by rw [← ht]; exact hB.2.1, hB.2.2⟩, h.2.2.1, hS⟩
/-- at a return -/
theorem Inv.atQ {g : GX} {N : Nat} {ln : Nat → Nat} {S : HC} {s t : State} {H : Heap} {locs : List Loc} (h : Inv g N ln S s H locs) (ht : t.heap = H) (hW : s.WarmedH t.vm) : AtQ g N ln S t := ⟨⟨va_K.moved hW.alike h.K, by rw [ht]; exact h.P⟩, by rw [ht]; exact h.sz, h.T⟩
/-- behind a write -/
theorem Inv.wr {g : GX} {N : Nat} {ln : Nat → Nat} {S S' : HC} {s : State} {H H1 : Heap} {locs locs1 : List Loc} (h : Inv g N ln S s H locs) (hP : va_P (gD g) vwCl (wl (gz g) (gA g) N ln S') H1) (hT : WT N S') (hz : H1.size = H.size) (hS : va_S (gF g) s.heap H1 locs1) : Inv g N ln S' s H1 locs1 := ⟨⟨h.K, hP⟩, ⟨hz.trans h.sz, hT⟩, h.2.2.1, hS⟩
