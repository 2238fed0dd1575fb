theorem nest_in : ∀ w ∈ nestW, w ∈ lw_tbl := by decide +kernel
theorem arr_p {s : State} {ty : FieldType} {A : Array Value} (h : (Cond.arrayClass ty).before A s = true) (hp : ∀ C, ty ≠ .object C) : ∃ c : ClassId, ArrOfT s c ty ∧ va_RA s c ty := by
  obtain ⟨c, k, comp, h1, h2, h3⟩ := Cond.arrayClass_spec h
  refine ⟨c, fun n z => ⟨(fun q h => by cases h), k, h2, comp, h3⟩, ?_⟩
  cases ty with
  | object C => exact absurd rfl (hp C)
  | _ => exact h1
theorem arr_o {s : State} {C : String} {A : Array Value} (h : (Cond.arrayOver (.object C)).before A s = true) : ∃ c : ClassId, ArrOfT s c (.object C) ∧ va_RA s c (.object C) := by
  obtain ⟨comp, c, k, h1, h2, h3, h4, h5⟩ := Cond.arrayOver_spec h
  exact ⟨c, fun n z => ⟨(fun q h => by cases h), k, h3, comp, h4⟩, k, comp, h3, h4, h1, h5⟩
set_option maxHeartbeats 4000000 in
set_option maxRecDepth 100000 in
/-- the world at the law's entry: nothing is made yet -/
theorem inv_start {p : Program} {s : State} {m : MethodId} {meth : Method} {c : Code} {b L : Nat} {xs : Nat → Int32} (C0 : lw_At p s m meth c b L xs) (ln : Nat → Nat) (S : HC) : ∃ g : GX, gz g = s.heap.size ∧ Inv g 0 ln S s s.heap [] := by
  obtain ⟨hx, hb, hr, hml, hown, htl, hX, hbl, hlocks, hgv⟩ := C0
  have hts : ∀ w ∈ gtbl, w.before #[Value.ref b] s = true := fun w h => htl w (gtbl_in h)
  have hs := flat_of_before _ hgv
  have hA : ∀ a : Nat, a < s.heap.size → ¬ (fun q : Nat => s.heap.size ≤ q) a := fun a h => Nat.not_le.mpr h
  obtain ⟨c0, i0, hk0⟩ := u_known (C := RX0) (T := TX0) (N := 12) (n := 12) hts iX0 (hts _ tw_86)
  obtain ⟨c1, i1, hk1⟩ := u_known (C := RX1) (T := TX1) (N := 3) (n := 3) hts iX1 (hts _ tw_813)
  obtain ⟨c2, i2, hk2⟩ := u_known (C := RX2) (T := TX2) (N := 11) (n := 11) hts iX2 (hts _ tw_178)
  obtain ⟨c3, i3, hk3⟩ := u_known (C := RX3) (T := TX3) (N := 3) (n := 3) hts iX3 (hts _ tw_238)
  obtain ⟨c4, i4, hk4⟩ := u_known (C := RX4) (T := TX4) (N := 6) (n := 6) hts iX4 (hts _ tw_150)
  obtain ⟨c5, i5, hk5⟩ := u_known (C := RX5) (T := TX5) (N := 5) (n := 5) hts iX5 (hts _ tw_257)
  obtain ⟨c6, i6, hk6⟩ := u_known (C := RX6) (T := TX6) (N := 2) (n := 2) hts iX6 (hts _ tw_184)
  obtain ⟨c7, i7, hk7⟩ := u_known (C := RX7) (T := TX7) (N := 11) (n := 11) hts iX7 (hts _ tw_78)
  obtain ⟨c8, i8, hk8⟩ := u_known (C := RX8) (T := TX8) (N := 34) (n := 34) hts iX8 (hts _ tw_932)
  obtain ⟨dC, dI, hKc⟩ : ∃ (dC : Nat → ClassId) (dI : Nat → Nat → Nat), ∀ (k : Nat) (q : vw_C), vwCl[k]? = some q → u_Kn s q.1 q.2.1 q.2.2 (dC k) (dI k) := by
    refine ⟨fun k => [c0, c1, c2, c3, c4, c5, c6, c7, c8].getD k c0, fun k => [i0, i1, i2, i3, i4, i5, i6, i7, i8].getD k i0, ?_⟩
    intro k q hq
    match k, hq with
    | 0, hq => cases hq; exact hk0
    | 1, hq => cases hq; exact hk1
    | 2, hq => cases hq; exact hk2
    | 3, hq => cases hq; exact hk3
    | 4, hq => cases hq; exact hk4
    | 5, hq => cases hq; exact hk5
    | 6, hq => cases hq; exact hk6
    | 7, hq => cases hq; exact hk7
    | 8, hq => cases hq; exact hk8
    | k + 9, hq => simp [vwCl] at hq
  obtain ⟨a9, h9⟩ := arr_p (hts _ tw_148) (fun _ h => by cases h)
  obtain ⟨a10, h10⟩ := arr_p (hts _ tw_176) (fun _ h => by cases h)
  obtain ⟨a11, h11⟩ := arr_p (hts _ tw_1041) (fun _ h => by cases h)
  obtain ⟨a12, h12⟩ := arr_p (hts _ tw_1040) (fun _ h => by cases h)
  have o13 := htl (.arrayOver (.object "LionShield$Law")) (by decide +kernel)
  have o14 := htl (.arrayOver (.object "LionShield$Row")) (by decide +kernel)
  have o15 := htl (.arrayOver (.object "LionShield$Slot")) (by decide +kernel)
  obtain ⟨a13, h13⟩ := arr_o o13
  obtain ⟨a14, h14⟩ := arr_o o14
  obtain ⟨a15, h15⟩ := arr_o o15
  obtain ⟨t, ht, hT⟩ := va_Tof (tm := Term.static "LionShield" "KIND_ABOVE" "[I") (ty := .int) (N := 6) (f := fun j => .int (kaL.getD j 0)) (A := fun q : Nat => s.heap.size ≤ q) (by decide) (hs _ (by decide +kernel)) (va_eqt (hs (Cond.eq (Term.length (Term.static "LionShield" "KIND_ABOVE" "[I")) (Term.int 6)) (by decide +kernel))) (fun j hj => by
    rcases (show j = 0 ∨ j = 1 ∨ j = 2 ∨ j = 3 ∨ j = 4 ∨ j = 5 by omega) with rfl | rfl | rfl | rfl | rfl | rfl
    · exact va_eqt (hs (Cond.eq (Term.elem (Term.static "LionShield" "KIND_ABOVE" "[I") (Term.int 0)) (Term.int (-1))) (by decide +kernel))
    · exact va_eqt (hs (Cond.eq (Term.elem (Term.static "LionShield" "KIND_ABOVE" "[I") (Term.int 1)) (Term.int 0)) (by decide +kernel))
    · exact va_eqt (hs (Cond.eq (Term.elem (Term.static "LionShield" "KIND_ABOVE" "[I") (Term.int 2)) (Term.int 0)) (by decide +kernel))
    · exact va_eqt (hs (Cond.eq (Term.elem (Term.static "LionShield" "KIND_ABOVE" "[I") (Term.int 3)) (Term.int 1)) (by decide +kernel))
    · exact va_eqt (hs (Cond.eq (Term.elem (Term.static "LionShield" "KIND_ABOVE" "[I") (Term.int 4)) (Term.int 2)) (by decide +kernel))
    · exact va_eqt (hs (Cond.eq (Term.elem (Term.static "LionShield" "KIND_ABOVE" "[I") (Term.int 5)) (Term.int 0)) (by decide +kernel))) hA
  have hZ := va_Zref (C := "LionShield") (n := "KIND_ABOVE") (d := "[I") (A := fun q : Nat => s.heap.size ≤ q) (htl (.laysStatic "LionShield" "KIND_ABOVE" "[I") (by decide +kernel)) (hts _ tw_60) ht hA
  obtain ⟨adK, adV, hS6, hev⟩ := vk_Sof (args := #[Value.ref b]) (s := s) (N := 6) (tm := fun i => Term.string "LionShield$Reader" (strK.getD i 0)) (len := strL) (byt := strB) (A := fun q : Nat => s.heap.size ≤ q) (by decide)
    (fun i hi => by rcases (show i = 0 ∨ i = 1 ∨ i = 2 ∨ i = 3 ∨ i = 4 ∨ i = 5 by omega) with rfl | rfl | rfl | rfl | rfl | rfl <;> exact hs _ (by decide +kernel))
    (fun i hi => by rcases (show i = 0 ∨ i = 1 ∨ i = 2 ∨ i = 3 ∨ i = 4 ∨ i = 5 by omega) with rfl | rfl | rfl | rfl | rfl | rfl <;> exact hs _ (by decide +kernel))
    (fun i hi => by rcases (show i = 0 ∨ i = 1 ∨ i = 2 ∨ i = 3 ∨ i = 4 ∨ i = 5 by omega) with rfl | rfl | rfl | rfl | rfl | rfl <;> exact hs _ (by decide +kernel))
    (fun i hi => by rcases (show i = 0 ∨ i = 1 ∨ i = 2 ∨ i = 3 ∨ i = 4 ∨ i = 5 by omega) with rfl | rfl | rfl | rfl | rfl | rfl <;> exact hs _ (by decide +kernel))
    (fun i hi j hj => by
      rcases (show i = 0 ∨ i = 1 ∨ i = 2 ∨ i = 3 ∨ i = 4 ∨ i = 5 by omega) with rfl | rfl | rfl | rfl | rfl | rfl
      · rcases (show j = 0 ∨ j = 1 ∨ j = 2 ∨ j = 3 by have : strL.getD 0 0 = 4 := rfl; omega) with rfl | rfl | rfl | rfl <;> exact hs _ (by decide +kernel)
      · rcases (show j = 0 ∨ j = 1 ∨ j = 2 by have : strL.getD 1 0 = 3 := rfl; omega) with rfl | rfl | rfl <;> exact hs _ (by decide +kernel)
      · rcases (show j = 0 ∨ j = 1 ∨ j = 2 ∨ j = 3 by have : strL.getD 2 0 = 4 := rfl; omega) with rfl | rfl | rfl | rfl <;> exact hs _ (by decide +kernel)
      · rcases (show j = 0 ∨ j = 1 ∨ j = 2 by have : strL.getD 3 0 = 3 := rfl; omega) with rfl | rfl | rfl <;> exact hs _ (by decide +kernel)
      · rcases (show j = 0 ∨ j = 1 by have : strL.getD 4 0 = 2 := rfl; omega) with rfl | rfl <;> exact hs _ (by decide +kernel)
      · rcases (show j = 0 ∨ j = 1 by have : strL.getD 5 0 = 2 := rfl; omega) with rfl | rfl <;> exact hs _ (by decide +kernel))
    (fun i j hi hj hij => by
      rcases (show i = 0 ∨ i = 1 ∨ i = 2 ∨ i = 3 ∨ i = 4 ∨ i = 5 by omega) with rfl | rfl | rfl | rfl | rfl | rfl <;> rcases (show j = 0 ∨ j = 1 ∨ j = 2 ∨ j = 3 ∨ j = 4 ∨ j = 5 by omega) with rfl | rfl | rfl | rfl | rfl | rfl <;> first | exact absurd rfl hij | exact Or.inl (hs _ (by decide +kernel)) | exact Or.inr (hs _ (by decide +kernel)))
    hA
  have hC := va_Zof (C := "java/lang/String") (n := "COMPACT_STRINGS") (d := "Z") (v := .int 1) (A := fun q : Nat => s.heap.size ≤ q) (htl (.laysStatic "java/lang/String" "COMPACT_STRINGS" "Z") (by decide +kernel)) (hts _ tw_71) (va_eqi (hs _ (by decide +kernel))) hA
  have hF := va_Zqof (C := "jdk/internal/util/Preconditions") (n := "SIOOBE_FORMATTER") (d := "Ljava/util/function/BiFunction;") (A := fun q : Nat => s.heap.size ≤ q) (htl (.laysStatic "jdk/internal/util/Preconditions" "SIOOBE_FORMATTER" "Ljava/util/function/BiFunction;") (by decide +kernel)) (hts _ tw_73) (hs _ (by decide +kernel)) hA
  refine ⟨((dC, dI), fun k => [a9, a10, a11, a12, a13, a14, a15].getD (k - 9) a9, s.heap.size, adK, adV, t), rfl, ⟨⟨hKc, ?_⟩, ?_⟩, ⟨rfl, ?_⟩, ⟨⟨fun w hw => ?_, ⟨va_AO.of o13, va_AO.of o14, va_AO.of o15⟩, ?_⟩, ⟨⟨hZ, hT⟩, hS6, hC, hF⟩, Nat.le_refl _⟩, va_S.rf⟩
  · intro k q hq
    match k, hq with
    | 0, hq => cases hq; exact h9
    | 1, hq => cases hq; exact h10
    | 2, hq => cases hq; exact h11
    | 3, hq => cases hq; exact h12
    | 4, hq => cases hq; exact h13
    | 5, hq => cases hq; exact h14
    | 6, hq => cases hq; exact h15
    | k + 7, hq => simp [tyL] at hq
  · intro k q h
    obtain ⟨h1, -⟩ := wl_in h
    omega
  · intro r k b h
    omega
  · obtain ⟨a, i, x, k, e⟩ := nestW_m w hw
    have := htl w (nest_in w hw)
    rw [e] at this ⊢
    exact va_Nw.of rfl this
  · intro i hi
    refine vk_R.of (A := #[Value.ref b]) ?_ (hev i hi)
    rcases (show i = 0 ∨ i = 1 ∨ i = 2 ∨ i = 3 ∨ i = 4 ∨ i = 5 by omega) with rfl | rfl | rfl | rfl | rfl | rfl
    · exact htl (.stringRef RX2 79 "join") (by decide +kernel)
    · exact htl (.stringRef RX2 85 "fee") (by decide +kernel)
    · exact htl (.stringRef RX2 87 "fine") (by decide +kernel)
    · exact htl (.stringRef RX2 122 "fmn") (by decide +kernel)
    · exact htl (.stringRef RX2 124 "yp") (by decide +kernel)
    · exact htl (.stringRef RX2 126 "ab") (by decide +kernel)
/-- THE LAW, from its entry, out of the pure predicate -/
theorem whole_from {p : Program} {e : Env} {s : State} {m : MethodId} {below : List Frame} {meth : Method} {c : Code} (l : Launch) {b L : Nat} {xs : Nat → Int32} (C0 : lw_At p s m meth c b L xs) (ln : Nat → Nat) (S : HC) (h : wpL_law L xs ln S) : W p l e room_1 s m #[Value.ref b] below meth c s.heap [] 0 0 (lw_Z below #[Value.ref b] s) (entryFrame m ([Value.ref b] : List Value).toArray 4) := by
  obtain ⟨g, hg, I⟩ := inv_start C0 ln S
  obtain ⟨hx, hb, hr, hml, hown, hts, hX, hbl, hlocks, hgv⟩ := id C0
  exact law_start C0 ⟨hx, hb, hml, hown, fun w hw => hts w (gtbl_in hw)⟩ hg I h
