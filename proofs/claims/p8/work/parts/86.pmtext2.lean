/-! text: the reference's reading, on -/
theorem kdT_e {x : Nat × Nat × Nat} (h : 1 ≤ x.2.2 ∧ x.2.2 ≤ 4) : (kdT x = 3 ↔ x.2.2 = 3) ∧ (kdT x = 1 ↔ x.2.2 = 1) ∧ (kdT x = 2 ↔ x.2.2 = 2 ∧ x.2.1 - x.1 ≤ 4) ∧ 1 ≤ kdT x ∧ kdT x ≤ 4 := by
  unfold kdT
  by_cases c : x.2.2 = 2 ∧ 4 < x.2.1 - x.1
  · rw [if_pos c]; omega
  · rw [if_neg c]; omega
theorem m_sign {ln : Nat → Nat} {t : Nat → Nat} {k key : Nat} {S : HC} {x : Nat × Nat × Nat} {ts : List (Nat × Nat × Nat)} {c : List Int32} {a : Nat} {W : List Int32} {B : List Bool} {post : Int32 → HC → Prop} (h : MMx t k key S (x :: ts) c a W B) : wpX8_signHere ln S 68 post = post (if (sy t key x).2.1 = 1 then sg (t x.1) else 0) S := by
  obtain ⟨⟨⟨⟨a1, a2, a3⟩, ⟨b1, b2⟩, -, tok, -⟩, ht, hs, hk⟩, -⟩ := h
  have ke := kdT_e tok.2.1
  have hq : x.1 < k := by have := tok.1; omega
  have b := (ht.2.2 x.1 hq).2
  unfold wpX8_signHere
  rw [lt_e, a3]
  by_cases c3 : x.2.2 = 3
  · rw [if_pos (by rw [ke.1.mpr c3]; rfl), lt_e, b1 (Or.inr c3)]
    by_cases c2 : opL (t x.1) < 9
    · rw [if_pos (sy_op.mpr ⟨c3, c2⟩)]
      rcases opL_in c2 with e | e | e | e | e | e | e | e | e <;> rw [e] <;> rfl
    · rw [if_neg (fun u => c2 (sy_op.mp u).2)]
      obtain ⟨o1, o2, o3, o4, o5, o6, o7, o8, o9⟩ := opL_out c2
      have ne : ∀ n : Nat, n < 256 → t x.1 ≠ n → ¬ nI (t x.1) = nI n := fun n hn u v => u ((nI_eq (by omega) (by omega)).mp v)
      rw [if_neg (show ¬ nI (t x.1) = 38 from ne 38 (by decide) o2), if_neg (show ¬ nI (t x.1) = 42 from ne 42 (by decide) o8), if_neg (show ¬ nI (t x.1) = 43 from ne 43 (by decide) o6), if_neg (show ¬ nI (t x.1) = 45 from ne 45 (by decide) o7), if_neg (show ¬ nI (t x.1) = 47 from ne 47 (by decide) o9), if_neg (show ¬ nI (t x.1) = 60 from ne 60 (by decide) o3), if_neg (show ¬ nI (t x.1) = 61 from ne 61 (by decide) o4), if_neg (show ¬ nI (t x.1) = 62 from ne 62 (by decide) o5), if_neg (show ¬ nI (t x.1) = 124 from ne 124 (by decide) o1)]
  · rw [if_neg (show ¬ nI (kdT x) = 3 from fun u => c3 (ke.1.mp ((nI_eq (b := 3) (by omega) (by decide)).mp u))), if_neg (fun u => c3 (sy_op.mp u).1)]
theorem m_is {t : Nat → Nat} {k key b : Nat} {S : HC} {x : Nat × Nat × Nat} {ts : List (Nat × Nat × Nat)} {c : List Int32} {a : Nat} {W : List Int32} {B : List Bool} {v : Int32} {A C : Prop} (h : MMx t k key S (x :: ts) c a W B) (hv : v = nI b) (hb : b < 256) : (lt_ (hI S 68 10) fun z => if z = 3 then (lt_ (hI S 68 11) fun z2 => if z2 = v then A else C) else C) = if x.2.2 = 3 ∧ t x.1 = b then A else C := by
  subst hv
  obtain ⟨⟨⟨⟨a1, a2, a3⟩, ⟨b1, b2⟩, -, tok, -⟩, ht, hs, hk⟩, -⟩ := h
  have ke := kdT_e tok.2.1
  have hq : x.1 < k := by have := tok.1; omega
  have b256 := (ht.2.2 x.1 hq).2
  rw [lt_e, a3]
  by_cases c3 : x.2.2 = 3
  · rw [if_pos (by rw [ke.1.mpr c3]; rfl), lt_e, b1 (Or.inr c3)]
    by_cases c2 : t x.1 = b
    · rw [if_pos (by rw [c2]), if_pos ⟨c3, c2⟩]
    · rw [if_neg (fun u => c2 ((nI_eq (by omega) (by omega)).mp u)), if_neg (fun u => c2 u.2)]
  · rw [if_neg (show ¬ nI (kdT x) = 3 from fun u => c3 (ke.1.mp ((nI_eq (b := 3) (by omega) (by decide)).mp u))), if_neg (fun u => c3 u.1)]
theorem m_is0 {t : Nat → Nat} {k key : Nat} {S : HC} {c : List Int32} {a : Nat} {W : List Int32} {B : List Bool} {v : Int32} {A C : Prop} (h : MMx t k key S [] c a W B) : (lt_ (hI S 68 10) fun z => if z = 3 then (lt_ (hI S 68 11) fun z2 => if z2 = v then A else C) else C) = C := by
  rw [lt_e, h.1.1.1, if_neg (by decide)]
theorem m_name {ln : Nat → Nat} {S : HC} {key b : Nat} {post : Int32 → HC → Prop} (hk : hI S 68 13 = nI key) (hk3 : key < 3) (hb : b < 256) : wpX8_nameOf ln S 68 (nI b) post = post (if nmX key b < 9 then nI (nmX key b) else -1) S := by
  have ne : ∀ n : Nat, n < 256 → (nI b = nI n ↔ b = n) := fun n hn => nI_eq (by omega) (by omega)
  have e1 : (nI b = 102) ↔ b = 102 := ne 102 (by decide)
  have e2 : (nI b = 109) ↔ b = 109 := ne 109 (by decide)
  have e3 : (nI b = 110) ↔ b = 110 := ne 110 (by decide)
  have e4 : (nI b = 121) ↔ b = 121 := ne 121 (by decide)
  have e5 : (nI b = 112) ↔ b = 112 := ne 112 (by decide)
  have e6 : (nI b = 97) ↔ b = 97 := ne 97 (by decide)
  have e7 : (nI b = 98) ↔ b = 98 := ne 98 (by decide)
  unfold wpX8_nameOf nmX
  rw [lt_e, hk]
  rcases (show key = 0 ∨ key = 1 ∨ key = 2 by omega) with e | e | e <;> subst e
  · rw [if_pos (show nI 0 = 0 from rfl), if_pos rfl]
    simp only [e1, e2, e3]
    by_cases c1 : b = 102
    · simp only [if_pos c1]; rfl
    · simp only [if_neg c1]
      by_cases c2 : b = 109
      · simp only [if_pos c2]; rfl
      · simp only [if_neg c2]
        by_cases c3 : b = 110
        · simp only [if_pos c3]; rfl
        · simp only [if_neg c3]; rfl
  · rw [if_neg (show ¬ nI 1 = 0 by decide), if_pos (show nI 1 = 1 from rfl), if_neg (show ¬ (1 : Nat) = 0 by decide), if_pos (show (1 : Nat) = 1 from rfl)]
    simp only [e4, e5]
    by_cases c1 : b = 121
    · simp only [if_pos c1]; rfl
    · simp only [if_neg c1]
      by_cases c2 : b = 112
      · simp only [if_pos c2]; rfl
      · simp only [if_neg c2]; rfl
  · rw [if_neg (show ¬ nI 2 = 0 by decide), if_neg (show ¬ nI 2 = 1 by decide), if_neg (show ¬ (2 : Nat) = 0 by decide), if_neg (show ¬ (2 : Nat) = 1 by decide)]
    simp only [e6, e7]
    by_cases c1 : b = 97
    · simp only [if_pos c1]; rfl
    · simp only [if_neg c1]
      by_cases c2 : b = 98
      · simp only [if_pos c2]; rfl
      · simp only [if_neg c2]; rfl
theorem MMx.leaf {t : Nat → Nat} {k key : Nat} {S : HC} {ts : List (Nat × Nat × Nat)} {c : List Int32} {a : Nat} {W : List Int32} {B : List Bool} {v : Int32} (h : MMx t k key S ts c a W B) : MMx t k key (sI (sI (sI S 77 c.length v) 68 17 (nI (c.length + 1))) 68 18 (nI (a + 1))) ts (c ++ [v]) (a + 1) W B := by
  obtain ⟨⟨r1, ht, hs, hk⟩, ⟨d1, d2, d3⟩, ⟨w1, w2⟩, hB⟩ := h
  refine ⟨⟨r1.ag (fun i u => by rw [hI_ne (by omega), hI_ne (by omega), hI_row (by decide)]), ht.ag (fun r i u => by rw [hI_ne (by omega), hI_ne (by omega), hI_row (by omega)]), ((hs.sI _ _ _).sI _ _ _).sI _ _ _, by rw [hI_ne (by decide), hI_ne (by decide), hI_row (by decide)]; exact hk⟩, ⟨by rw [hI_ne (by decide), hI_self, List.length_append]; rfl, fun i hi => ?_, hI_self _ _ _ _⟩, ⟨by rw [hI_ne (by decide), hI_ne (by decide), hI_row (by decide)]; exact w1, w2.ag (fun i _ => by rw [hI_row (by decide), hI_row (by decide), hI_row (by decide)])⟩, hB.ag (fun i _ => by rw [hI_row (by decide), hI_row (by decide), hI_row (by decide)])⟩
  rw [List.length_append] at hi
  have hi2 : i < c.length + 1 := hi
  rw [getD_app hi2, hI_row (by decide), hI_row (by decide)]
  by_cases q : i = c.length
  · rw [if_pos q, q, hI_self]
  · rw [if_neg q, hI_ne (by omega)]
    exact d2 i (by omega)
theorem m_part {ln : Nat → Nat} {t : Nat → Nat} {k key : Nat} {S : HC} {ts : List (Nat × Nat × Nat)} {c : List Int32} {a : Nat} {W : List Int32} {B : List Bool} {post : Int32 → HC → Prop} (hl : LN ln) (hk3 : key < 3) (h : MMx t k key S ts c a W B) (h96 : c.length + W.length + ts.length ≤ 96) (h1 : ∀ S' x r, ts = x :: r → (sy t key x).2.1 = 0 → MMx t k key S' r (stl 6 W (c ++ [nI (sy t key x).2.2])).2 (a + 1) (stl 6 W (c ++ [nI (sy t key x).2.2])).1 B → FT S S' → post 1 S') (h0 : (∀ x r, ts = x :: r → (sy t key x).2.1 ≠ 0) → post 0 S) : wpX8_takesPart ln S 68 post := by
  have hs := h.1.2.2.1
  cases ts with
  | nil =>
    unfold wpX8_takesPart BX8_takesPart_36 BX8_takesPart_37
    rw [lt_e, h.1.1.1, if_neg (by decide), lt_e, if_neg (by decide), if_pos rfl, rb_e0]
    exact h0 (fun x r e => by cases e)
  | cons x r =>
    obtain ⟨⟨a1, a2, a3⟩, ⟨b1, b2⟩, -, tok, -⟩ := id h.1.1
    have ke := kdT_e tok.2.1
    have ht := h.1.2.1
    have hk := h.1.2.2.2
    have hq := tok.1
    have k96 := ht.1
    have b := (ht.2.2 x.1 (by omega)).2
    rw [List.length_cons] at h96
    have d1 := h.2.1.1
    have d3 := h.2.1.2.2
    have good : ∀ v : Nat, (sy t key x).2.1 = 0 → v = (sy t key x).2.2 → BX8_takesPart_87 ln post S 68 77 (nI c.length) (nI v) := fun v u ev => by
      unfold BX8_takesPart_87
      rw [ln77 hl, as_e (by omega) (by decide), lt_e, hI_row (by decide), d1, lt_e, nI_1, lt_e, lt_e, hI_ne (by decide), hI_row (by decide), d3, lt_e, nI_1, lt_e]
      refine (m_settle (r := 6) hl (by decide) W (c ++ [nI v]) _ (by rw [List.length_append]; simp; omega) h.leaf (fun S2 h2 f2 => ?_)).1
      refine m_go hl h2 (fun S3 h3 f3 => ?_)
      rw [rb_e1]
      rw [ev] at h3
      exact h1 S3 x r rfl u h3 (((((FT.arr (Or.inl rfl)).tr (FT.s68 (Or.inr (Or.inl rfl)))).tr (FT.s68 (Or.inr (Or.inr (Or.inl rfl))))).tr f2).tr f3)
    have bad : (sy t key x).2.1 ≠ 0 → kdT x ≠ 2 → BX8_takesPart_36 ln post S 68 := fun u v => by
      unfold BX8_takesPart_36 BX8_takesPart_37
      rw [lt_e, a3, if_neg (show ¬ nI (kdT x) = 2 from fun w => v ((nI_eq (b := 2) (by omega) (by decide)).mp w)), if_pos rfl, rb_e0]
      exact h0 (fun y r' e => by cases e; exact u)
    unfold wpX8_takesPart
    rw [lt_e, a3]
    by_cases c0 : (sy t key x).2.1 = 0
    · rcases sy_leaf tok c0 with ⟨e1, e2, e3, e4⟩ | ⟨e1, e2, e3⟩
      · have k2 : kdT x = 2 := ke.2.2.1.mpr ⟨e1, e2⟩
        rw [if_neg (by rw [k2]; decide)]
        unfold BX8_takesPart_36 BX8_takesPart_37 BX8_takesPart_52
        rw [lt_e, a3, if_pos (by rw [k2]; rfl), sh68_16 hs, dn_e, lt_e, d1, lt_e, if_pos (by rw [k2]; rfl), lt_e, b2 ⟨e1, e2⟩]
        exact good _ c0 e3.symm
      · have k1 : kdT x = 1 := ke.2.1.mpr e1
        have nm := nmX_in e2.2
        rw [if_pos (by rw [k1]; rfl), lt_e, a2, lt_e, a1, lt_e, pk_sub (by omega), if_pos (by rw [e2.1]; rfl), lt_e, b1 (Or.inl e1), m_name hk hk3 b, if_pos e2.2, if_neg (nI_pos (by omega))]
        unfold BX8_takesPart_37 BX8_takesPart_52
        rw [lt_e, a3, if_neg (by rw [k1]; decide), if_neg (by decide), sh68_16 hs, dn_e, lt_e, d1, lt_e, if_neg (by rw [k1]; decide), lt_e, b1 (Or.inl e1), m_name hk hk3 b, if_pos e2.2, lt_e, show (10000 : Int32) + nI (nmX key (t x.1)) = nI (10000 + nmX key (t x.1)) from nI_add 10000 _]
        exact good _ c0 e3.symm
    · have sn := sy_not c0
      have n2 : kdT x ≠ 2 := fun u => (sn.1 (ke.2.2.1.mp u).1) (ke.2.2.1.mp u).2
      by_cases c1 : x.2.2 = 1
      · rw [if_pos (by rw [ke.2.1.mpr c1]; rfl), lt_e, a2, lt_e, a1, lt_e, pk_sub (by omega)]
        by_cases c2 : x.2.1 - x.1 = 1
        · have c3 : ¬ nmX key (t x.1) < 9 := fun u => sn.2 ⟨c1, c2, u⟩
          rw [if_pos (by rw [c2]; rfl), lt_e, b1 (Or.inl c1), m_name hk hk3 b, if_neg c3, if_pos (by decide)]
          exact bad c0 n2
        · rw [if_neg (show ¬ nI (x.2.1 - x.1) = 1 from fun u => c2 ((nI_eq (b := 1) (by omega) (by decide)).mp u))]
          exact bad c0 n2
      · rw [if_neg (show ¬ nI (kdT x) = 1 from fun u => c1 (ke.2.1.mp ((nI_eq (b := 1) (by omega) (by decide)).mp u)))]
        exact bad c0 n2
/-- a sign begins to wait -/
theorem MMx.push {t : Nat → Nat} {k key : Nat} {S : HC} {ts : List (Nat × Nat × Nat)} {c : List Int32} {a : Nat} {W : List Int32} {B : List Bool} {v : Int32} (h : MMx t k key S ts c a W B) : MMx t k key (sI (sI S 78 W.length v) 68 20 (nI (W.length + 1))) ts c a (v :: W) B := by
  obtain ⟨⟨r1, ht, hs, hk⟩, ⟨d1, d2, d3⟩, ⟨w1, w2⟩, hB⟩ := h
  exact ⟨⟨r1.ag (fun i u => by rw [hI_ne (by omega), hI_row (by decide)]), ht.ag (fun r i u => by rw [hI_ne (by omega), hI_row (by omega)]), (hs.sI _ _ _).sI _ _ _, by rw [hI_ne (by decide), hI_row (by decide)]; exact hk⟩, ⟨by rw [hI_ne (by decide), hI_row (by decide)]; exact d1, fun i hi => by rw [hI_row (by decide), hI_row (by decide)]; exact d2 i hi, by rw [hI_ne (by decide), hI_row (by decide)]; exact d3⟩, ⟨by rw [hI_self]; rfl, by rw [hI_row (by decide), hI_self], w2.ag (fun i hi => by rw [hI_row (by decide), hI_ne (by omega)])⟩, hB.ag (fun i _ => by rw [hI_row (by decide), hI_row (by decide)])⟩
theorem MMx.tst {t : Nat → Nat} {k key : Nat} {S : HC} {ts : List (Nat × Nat × Nat)} {c : List Int32} {a : Nat} {W : List Int32} {B : List Bool} {b : Bool} {j : Nat} {v : Int32} (h : MMx t k key S ts c a W B) (hj : j = B.length) (hv : v = if b = true then 1 else 0) : MMx t k key (sI S 79 j v) ts c a W (b :: B) := by
  obtain ⟨⟨r1, ht, hs, hk⟩, ⟨d1, d2, d3⟩, ⟨w1, w2⟩, hB⟩ := h
  subst hj
  exact ⟨⟨r1.ag (fun i u => hI_row (by decide)), ht.ag (fun r i u => hI_row (by omega)), hs.sI _ _ _, by rw [hI_row (by decide)]; exact hk⟩, ⟨by rw [hI_row (by decide)]; exact d1, fun i hi => by rw [hI_row (by decide)]; exact d2 i hi, by rw [hI_row (by decide)]; exact d3⟩, ⟨by rw [hI_row (by decide)]; exact w1, w2.ag (fun i hi => hI_row (by decide))⟩, by rw [hI_self]; exact hv, hB.ag (fun i hi => hI_ne (by omega))⟩
theorem MMx.dropB {t : Nat → Nat} {k key : Nat} {S : HC} {ts : List (Nat × Nat × Nat)} {c : List Int32} {a : Nat} {W : List Int32} {B : List Bool} {b : Bool} (h : MMx t k key S ts c a W (b :: B)) : MMx t k key S ts c a W B := ⟨h.1, h.2.1, h.2.2.1, h.2.2.2.2⟩
