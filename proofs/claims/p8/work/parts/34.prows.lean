/-! steps: rows begun, marked, read -/
/-- S' is S but for the cells lo .. hi of the row r, which hold g -/
def Fl (S S' : HC) (r lo hi : Nat) (g : Nat → Int32) : Prop := (∀ a b, hI S' a b = if a = r ∧ lo ≤ b ∧ b < hi then g b else hI S a b) ∧ ∀ a b, hR S' a b = hR S a b
theorem Fl.rf (S : HC) (r lo : Nat) (g : Nat → Int32) : Fl S S r lo lo g := ⟨fun a b => by rw [if_neg (by omega)], fun _ _ => rfl⟩
theorem Fl.step {S S' : HC} {r lo hi : Nat} {g : Nat → Int32} {v : Int32} (h : Fl S S' r lo hi g) (hlo : lo ≤ hi) (hv : v = g hi) : Fl S (sI S' r hi v) r lo (hi + 1) g := by
  refine ⟨fun a b => ?_, fun a b => h.2 a b⟩
  by_cases e : a = r ∧ b = hi
  · rw [e.1, e.2, hI_self, if_pos ⟨rfl, hlo, by omega⟩, hv]
  · rw [hI_ne e, h.1]
    by_cases e2 : a = r ∧ lo ≤ b ∧ b < hi
    · rw [if_pos e2, if_pos ⟨e2.1, e2.2.1, by omega⟩]
    · rw [if_neg e2, if_neg (by omega)]
theorem Fl.sh {S S' : HC} {r lo hi : Nat} {g : Nat → Int32} (h : Fl S S' r lo hi g) (hs : SH S) : SH S' := hs.of (fun _ _ => h.2 _ _)
theorem Fl.o {S S' : HC} {r lo hi : Nat} {g : Nat → Int32} (h : Fl S S' r lo hi g) {a b : Nat} (q : a ≠ r) : hI S' a b = hI S a b := by rw [h.1, if_neg (fun u => q u.1)]
theorem Fl.i {S S' : HC} {r lo hi : Nat} {g : Nat → Int32} (h : Fl S S' r lo hi g) {b : Nat} (q1 : lo ≤ b) (q2 : b < hi) : hI S' r b = g b := by rw [h.1, if_pos ⟨rfl, q1, q2⟩]
theorem Fl.x {S S' : HC} {r lo hi : Nat} {g : Nat → Int32} (h : Fl S S' r lo hi g) {a b : Nat} (q : ¬ (lo ≤ b ∧ b < hi)) : hI S' a b = hI S a b := by rw [h.1, if_neg (fun u => q u.2)]
theorem p_beginAs {ln : Nat → Nat} {S : HC} {i : Nat} {a1 a2 : Int32} {post : HC → Prop} (hs : SH S) (hl : LN ln) (hi : i < 4) (h : ∀ S', Fl (sI (sI S (45 + 2 * i) 0 a1) (45 + 2 * i) 1 a2) S' (46 + 2 * i) 0 24 (fun _ => 0) → post S') : wpX3_beginAs ln S (45 + 2 * i) a1 a2 post := by
  unfold wpX3_beginAs
  simp only [lt_e]
  generalize hS0 : sI (sI S (45 + 2 * i) 0 a1) (45 + 2 * i) 1 a2 = S0 at h
  have hs0 : SH S0 := by rw [← hS0]; exact hs
  have key : ∀ m j S', j + m = 24 → Fl S0 S' (46 + 2 * i) 0 j (fun _ => 0) → LX3_beginAs_12 ln post (m + 1) S' (45 + 2 * i) (nI j) := by
    intro m
    induction m with
    | zero =>
      intro j S' hj hF
      rw [LX3_beginAs_12]
      dsimp only
      rw [if_pos (show (24 : Int32) ≤ nI j from nI_le (a := 24) (by omega) (by omega))]
      exact h S' (by rw [show (24 : Nat) = j by omega]; exact hF)
    | succ m ih =>
      intro j S' hj hF
      rw [LX3_beginAs_12]
      dsimp only
      rw [if_neg (show ¬ (24 : Int32) ≤ nI j from nI_ge (b := 24) (by omega) (by decide)), (rw_o (hF.sh hs0) hi).2, dn_e, rw_n hl hi, as_e (by omega) (by decide), lt_e, nI_1]
      exact ih (j + 1) _ (by omega) (hF.step (by omega) rfl)
  exact ⟨25, key 24 0 S0 (by omega) (Fl.rf _ _ _ _)⟩
theorem p_msheet {ln : Nat → Nat} {S : HC} {i : Nat} {post : Int32 → HC → Prop} (hs : SH S) (hl : LN ln) (hi : i < 4) (h : ∀ S', Fl S S' 84 (24 * i) (24 * i + 24) (fun _ => 0) → post (hI S 83 i) S') : ∃ n, LX8_sheet_66 ln post n S 68 (nI i) 0 := by
  have key : ∀ m j S', j + m = 24 → Fl S S' 84 (24 * i) (24 * i + j) (fun _ => 0) → LX8_sheet_66 ln post (m + 1) S' 68 (nI i) (nI j) := by
    intro m
    induction m with
    | zero =>
      intro j S' hj hF
      rw [LX8_sheet_66]
      dsimp only
      rw [if_pos (show (24 : Int32) ≤ nI j from nI_le (a := 24) (by omega) (by omega)), sh68_25 (hF.sh hs), dn_e, ln83 hl, al_e hi (by decide), hF.o (by decide)]
      have ej : j = 24 := by omega
      rw [ej] at hF
      exact h S' hF
    | succ m ih =>
      intro j S' hj hF
      rw [LX8_sheet_66]
      dsimp only
      rw [if_neg (show ¬ (24 : Int32) ≤ nI j from nI_ge (b := 24) (by omega) (by decide)), sh68_26 (hF.sh hs), dn_e]
      simp only [lt_e]
      rw [show (24 : Int32) * nI i = nI (24 * i) from pk_mul 24 i, nI_add, ln84 hl, as_e (by omega) (by decide), nI_1]
      exact ih (j + 1) _ (by omega) (hF.step (by omega) rfl)
  exact ⟨25, key 24 0 S (by omega) (Fl.rf _ _ _ _)⟩
theorem pRow.one {S S' : HC} (h : pRow S) {i : Nat} (ho : ∀ t, t < 4 → t ≠ i → hI S' (45 + 2 * t) 0 = hI S (45 + 2 * t) 0 ∧ hI S' (45 + 2 * t) 1 = hI S (45 + 2 * t) 1 ∧ hI S' 82 t = hI S 82 t ∧ hI S' 83 t = hI S 83 t ∧ ∀ j, j < 24 → hI S' (46 + 2 * t) j = hI S (46 + 2 * t) j ∧ hI S' 84 (24 * t + j) = hI S 84 (24 * t + j)) (hi : (hI S' (45 + 2 * i) 0 = hI S' 82 i ∧ (hI S' 82 i = -1 ∨ hI S' 82 i = 0 ∨ hI S' 82 i = 1)) ∧ (∃ l, l ≤ 24 ∧ hI S' (45 + 2 * i) 1 = nI l ∧ hI S' 83 i = nI l) ∧ ∀ j, j < 24 → hI S' (46 + 2 * i) j = hI S' 84 (24 * i + j) ∧ isNum (hI S' 84 (24 * i + j))) : pRow S' := by
  intro t ht
  by_cases e : t = i
  · rw [e]; exact hi
  · obtain ⟨o1, o2, o3, o4, o5⟩ := ho t ht e
    obtain ⟨a1, a2, a3⟩ := h t ht
    rw [o1, o2, o3, o4]
    refine ⟨a1, a2, fun j hj => ?_⟩
    rw [(o5 j hj).1, (o5 j hj).2]
    exact a3 j hj
theorem sheet_end {N : Nat} {ln : Nat → Nat} {S S2 S4 : HC} (h : PI N ln S) {i l : Nat} {a2 : Int32} (hi : i < 4) (hl : l ≤ 24) (h2 : a2 = -1 ∨ a2 = 0 ∨ a2 = 1) (f2 : Fl (sI (sI S (45 + 2 * i) 0 a2) (45 + 2 * i) 1 (nI l)) S2 (46 + 2 * i) 0 24 (fun _ => 0)) (f4 : Fl (sI (sI S2 82 i a2) 83 i (nI l)) S4 84 (24 * i) (24 * i + 24) (fun _ => 0)) : PI N ln S4 := by
  have e4 : ∀ r k, r ≠ 84 → r ≠ 83 → r ≠ 82 → r ≠ 46 + 2 * i → r ≠ 45 + 2 * i → hI S4 r k = hI S r k := fun r k q1 q2 q3 q4 q5 => by rw [f4.o q1, hI_row q2, hI_row q3, f2.o q4, hI_row q5, hI_row q5]
  refine h.row (fun r k => by rw [f4.2, hR_sI, hR_sI, f2.2, hR_sI, hR_sI]) (fun r k q => e4 r k (by omega) (by omega) (by omega) (by omega) (by omega)) (h.2.2.2.2.1.one (i := i) (fun t ht q => ⟨e4 _ _ (by omega) (by omega) (by omega) (by omega) (by omega), e4 _ _ (by omega) (by omega) (by omega) (by omega) (by omega), ?_, ?_, fun j hj => ⟨e4 _ _ (by omega) (by omega) (by omega) (by omega) (by omega), ?_⟩⟩) ⟨⟨?_, ?_⟩, ⟨l, hl, ?_, ?_⟩, fun j hj => ⟨?_, ?_⟩⟩)
  · rw [f4.o (by decide), hI_row (by decide), hI_ne (by omega), f2.o (by omega), hI_row (by omega), hI_row (by omega)]
  · rw [f4.o (by decide), hI_ne (by omega), hI_row (by decide), f2.o (by omega), hI_row (by omega), hI_row (by omega)]
  · rw [f4.x (by omega), hI_row (by decide), hI_row (by decide), f2.o (by omega), hI_row (by omega), hI_row (by omega)]
  · rw [f4.o (by omega), f4.o (by decide), hI_row (by omega), hI_row (by omega), hI_row (by decide), hI_self, f2.o (by omega), hI_ne (by omega), hI_self]
  · rw [f4.o (by decide), hI_row (by decide), hI_self]; exact h2
  · rw [f4.o (by omega), hI_row (by omega), hI_row (by omega), f2.o (by omega), hI_self]
  · rw [f4.o (by decide), hI_self]
  · rw [f4.o (by omega), hI_row (by omega), hI_row (by omega), f2.i (by omega) hj, f4.i (by omega) (by omega)]
  · rw [f4.i (by omega) (by omega)]; exact Or.inr ⟨by decide, by decide⟩
theorem s_sheet {N : Nat} {ln : Nat → Nat} {S : HC} (h : PI N ln S) (a1 a2 a3 : Int32) : wpX7_sheet ln S 0 a1 a2 a3 fun v S => wpX8_sheet ln S 68 a1 a2 a3 fun w S => OK N ln v w S := by
  obtain ⟨⟨hs, hl, -, -⟩, -, -, -, hr, -⟩ := id h
  unfold wpX7_sheet BX7_sheet_17
  rw [p_isSheet]
  by_cases c : 0 ≤ a1 ∧ a1 < 4
  · obtain ⟨i, hi, rfl⟩ := ge_of (n := 4) (by decide) c
    rw [bI_t c, if_neg (by decide)]
    have no : ¬ (-1 ≤ a2 ∧ a2 ≤ 1) → wpX8_sheet ln S 68 (nI i) a2 a3 fun w S => OK N ln (-1000000001) w S := fun q => by
      unfold wpX8_sheet BX8_sheet_26
      rw [p_mSheet, shE, bI_t c, if_neg (by decide), p_in, bI_f q, if_pos rfl]
      exact ⟨rfl, h⟩
    by_cases c1 : a2 < -1
    · rw [if_pos c1]; exact no (fun q => absurd c1 (Int32.not_lt.mpr q.1))
    rw [if_neg c1]
    by_cases c2 : a2 ≤ 1
    · rw [if_pos c2]
      have b2 : -1 ≤ a2 ∧ a2 ≤ 1 := ⟨Int32.not_lt.mp c1, c2⟩
      have s2 : a2 = -1 ∨ a2 = 0 ∨ a2 = 1 := by
        simp only [i_le, i_eq] at b2 ⊢
        have : (-1 : Int32).toInt = -1 := rfl
        have : (0 : Int32).toInt = 0 := rfl
        have : (1 : Int32).toInt = 1 := rfl
        omega
      by_cases c3 : a2 = -1
      · subst c3
        rw [if_pos rfl, sh0_6 hs, dn_e, ln41 hl, al_e hi (by decide), (rw_o hs hi).1, dn_e]
        refine p_beginAs hs hl hi (fun S2 f2 => ?_)
        have hs2 := f2.sh ((hs.sI _ _ _).sI _ _ _)
        unfold wpX8_sheet BX8_sheet_29 BX8_sheet_41 BX8_sheet_62
        dsimp only
        rw [p_mSheet, shE, bI_t c, if_neg (by decide), p_in, bI_t (by decide), if_neg (by decide), if_pos (by decide), if_pos (by decide), sh68_24 hs2, dn_e, ln82 hl, as_e hi (by decide), sh68_25 (hs2.sI _ _ _), dn_e, if_neg (by decide), ln83 hl, as_e hi (by decide)]
        refine p_msheet ((hs2.sI _ _ _).sI _ _ _) hl hi (fun S4 f4 => ⟨?_, sheet_end (l := 0) h hi (by decide) (Or.inl rfl) f2 f4⟩)
        rw [hI_self]
      · rw [if_neg c3]
        have n2 : ¬ a2 < 0 := by
          rcases s2 with e | e | e
          · exact absurd e c3
          · rw [e]; decide
          · rw [e]; decide
        by_cases c4 : a3 ≤ 24
        · rw [if_pos c4]
          by_cases c5 : 0 ≤ a3
          · rw [if_pos c5, sh0_6 hs, dn_e, ln41 hl, al_e hi (by decide), (rw_o hs hi).1, dn_e]
            obtain ⟨l, h24, rfl⟩ := nI_of2 (n := 24) (M := 24) (x := a3) rfl (Int32.not_lt.mpr c5) c4
            refine p_beginAs hs hl hi (fun S2 f2 => ?_)
            have hs2 := f2.sh ((hs.sI _ _ _).sI _ _ _)
            unfold wpX8_sheet BX8_sheet_29 BX8_sheet_41 BX8_sheet_62
            dsimp only
            rw [p_mSheet, shE, bI_t c, if_neg (by decide), p_in, bI_t b2, if_neg (by decide), if_neg n2, if_pos c4, if_neg n2, if_pos c5, sh68_24 hs2, dn_e, ln82 hl, as_e hi (by decide), sh68_25 (hs2.sI _ _ _), dn_e, if_pos (Int32.not_lt.mp n2), ln83 hl, as_e hi (by decide)]
            refine p_msheet ((hs2.sI _ _ _).sI _ _ _) hl hi (fun S4 f4 => ⟨?_, sheet_end (l := l) h hi (by omega) s2 f2 f4⟩)
            rw [hI_self]
          · rw [if_neg c5]
            unfold wpX8_sheet BX8_sheet_29
            dsimp only
            rw [p_mSheet, shE, bI_t c, if_neg (by decide), p_in, bI_t b2, if_neg (by decide), if_neg n2, if_pos c4, if_neg n2, if_neg c5]
            exact ⟨rfl, h⟩
        · rw [if_neg c4]
          unfold wpX8_sheet BX8_sheet_26
          dsimp only
          rw [p_mSheet, shE, bI_t c, if_neg (by decide), p_in, bI_t b2, if_neg (by decide), if_neg n2, if_neg c4]
          exact ⟨rfl, h⟩
    · rw [if_neg c2]; exact no (fun q => c2 q.2)
  · rw [bI_f c, if_pos rfl]
    unfold wpX8_sheet BX8_sheet_26
    dsimp only
    rw [p_mSheet, shE, bI_f c, if_pos rfl]
    exact ⟨rfl, h⟩
theorem p_isMissing {ln : Nat → Nat} {S : HC} {r : Nat} {post : Int32 → HC → Prop} : wpX3_isMissing ln S r post = post (bI (hI S r 0 = -1)) S := by
  unfold wpX3_isMissing
  rw [lt_e, rb_e0, rb_e1]
  by_cases e : hI S r 0 = -1
  · rw [if_pos e, bI_t e]
  · rw [if_neg e, bI_f e]
/-- one place of one row, on both sides -/
theorem PI.cell {N : Nat} {ln : Nat → Nat} {S : HC} (h : PI N ln S) {i j : Nat} {v : Int32} (hi : i < 4) (hj : j < 24) (hv : isNum v) : PI N ln (sI (sI S (46 + 2 * i) j v) 84 (24 * i + j) v) := by
  have e4 : ∀ r k, r ≠ 84 → r ≠ 46 + 2 * i → hI (sI (sI S (46 + 2 * i) j v) 84 (24 * i + j) v) r k = hI S r k := fun r k q1 q4 => by rw [hI_row q1, hI_row q4]
  obtain ⟨b1, b2, b3⟩ := h.2.2.2.2.1 i hi
  refine h.row (fun r k => rfl) (fun r k q => e4 r k (by omega) (by omega)) (h.2.2.2.2.1.one (i := i) (fun t ht q => ⟨e4 _ _ (by omega) (by omega), e4 _ _ (by omega) (by omega), e4 _ _ (by omega) (by omega), e4 _ _ (by omega) (by omega), fun j2 hj2 => ⟨e4 _ _ (by omega) (by omega), by rw [hI_ne (by omega), hI_row (by omega)]⟩⟩) ?_)
  rw [e4 _ _ (by omega) (by omega), e4 _ _ (by omega) (by omega), e4 _ _ (by omega) (by omega), e4 _ _ (by omega) (by omega)]
  refine ⟨b1, b2, fun j2 hj2 => ?_⟩
  by_cases e : j2 = j
  · subst e
    rw [hI_row (by omega), hI_self, hI_self]; exact ⟨rfl, hv⟩
  · rw [hI_row (by omega), hI_ne (by omega), hI_ne (by omega), hI_row (by omega)]; exact b3 j2 hj2
theorem num16 (x : Int32) : isNum x.toInt16.toInt32 := by
  have h1 := Int16.le_toInt x.toInt16
  have h2 := Int16.toInt_lt x.toInt16
  refine Or.inr ?_
  rw [i_le, i_le, Int16.toInt_toInt32]
  have : (-99999 : Int32).toInt = -99999 := rfl
  have : (99999 : Int32).toInt = 99999 := rfl
  omega
theorem s_mark {N : Nat} {ln : Nat → Nat} {S : HC} (h : PI N ln S) (a1 a2 a3 : Int32) : wpX7_mark ln S 0 a1 a2 a3 fun v S => wpX8_mark ln S 68 a1 a2 a3 fun w S => OK N ln v w S := by
  obtain ⟨⟨hs, hl, -, -⟩, -, -, -, hr, -⟩ := id h
  unfold wpX7_mark BX7_mark_90 BX7_mark_93
  rw [p_isSheet]
  by_cases c : 0 ≤ a1 ∧ a1 < 4
  · obtain ⟨i, hi, rfl⟩ := ge_of (n := 4) (by decide) c
    obtain ⟨⟨b1, b2⟩, ⟨l, l1, l2, l3⟩, b3⟩ := hr i hi
    rw [bI_t c, if_neg (by decide), sh0_6 hs, dn_e, ln41 hl, al_e hi (by decide), (rw_o hs hi).1, dn_e, p_isMissing, b1]
    by_cases c1 : hI S 82 i = -1
    · rw [bI_t c1, if_neg (by decide)]
      unfold wpX8_mark
      dsimp only
      rw [p_mSheet, shE, bI_t c, if_neg (by decide), sh68_24 hs, dn_e, ln82 hl, al_e hi (by decide), c1, if_neg (by decide)]
      exact ⟨rfl, h⟩
    rw [bI_f c1, if_pos rfl, p_hasPlace l2 l1]
    have p0 : 0 ≤ hI S 82 i := by
      rcases b2 with e | e | e
      · exact absurd e c1
      · rw [e]; decide
      · rw [e]; decide
    by_cases c2 : 0 ≤ a2 ∧ a2 < nI l
    · obtain ⟨j, hj, rfl⟩ := ge_of (n := l) (by omega) c2
      rw [bI_t c2, if_neg (by decide), lt_e, b1]
      have mm : ∀ (S1 : HC) (v : Int32), SH S1 → (∀ r k, r ≠ 46 + 2 * i → hI S1 r k = hI S r k) → (wpX8_mark ln S1 68 (nI i) (nI j) a3 fun w S => OK N ln v w S) = if hI S 82 i = 0 then (if a3 = -1000000005 then OK N ln v (-1000000012) S1 else OK N ln v 1 (sI S1 84 (24 * i + j) (a3.toInt16.toInt32))) else if a3 = -1000000005 ∨ (-99999 ≤ a3 ∧ a3 ≤ 99999) then OK N ln v 1 (sI S1 84 (24 * i + j) a3) else OK N ln v (-1000000001) S1 := fun S1 v hs1 e1 => by
        unfold wpX8_mark BX8_mark_60 BX8_mark_92 BX8_mark_117
        simp only [p_mSheet, shE, bI_t c, sh68_24 hs1, sh68_25 hs1, sh68_26 hs1, dn_e, ln82 hl, ln83 hl, ln84 hl, lt_e, p_in]
        rw [if_neg (by decide), al_e hi (by decide), al_e hi (by decide), al_e hi (by decide), al_e hi (by decide), al_e hi (by decide), e1 82 i (by omega), e1 83 i (by omega), if_pos p0, l3, plE l1, bI_t c2, if_neg (by decide), show (24 : Int32) * nI i = nI (24 * i) from pk_mul 24 i, nI_add, as_e (by omega) (by decide), as_e (by omega) (by decide)]
        rcases b2 with e | e | e
        · exact absurd e c1
        · rw [e, if_pos rfl, if_pos rfl, if_neg (show ¬ (0 : Int32) = 1 by decide), if_pos rfl]
        · rw [e]
          simp only [if_neg (show ¬ (1 : Int32) = 0 by decide), if_true]
          by_cases u : a3 = -1000000005
          · rw [if_pos u, if_pos (Or.inl u)]
          · rw [if_neg u]
            by_cases u2 : -99999 ≤ a3 ∧ a3 ≤ 99999
            · rw [bI_t u2, if_neg (by decide), if_pos (Or.inr u2)]
            · rw [bI_f u2, if_pos rfl, if_neg (by rintro (q | q); exact u q; exact u2 q)]
      have mm2 : ∀ (S1 : HC) (v : Int32), SH S1 → (∀ r k, r ≠ 46 + 2 * i → hI S1 r k = hI S r k) → (if hI S 82 i = 0 then (if a3 = -1000000005 then OK N ln v (-1000000012) S1 else OK N ln v 1 (sI S1 84 (24 * i + j) (a3.toInt16.toInt32))) else if a3 = -1000000005 ∨ (-99999 ≤ a3 ∧ a3 ≤ 99999) then OK N ln v 1 (sI S1 84 (24 * i + j) a3) else OK N ln v (-1000000001) S1) → wpX8_mark ln S1 68 (nI i) (nI j) a3 fun w S => OK N ln v w S := fun S1 v q1 q2 q3 => by rw [mm S1 v q1 q2]; exact q3
      by_cases c3 : hI S 82 i = 0
      · rw [if_pos c3]
        by_cases c4 : a3 = -1000000005
        · rw [if_pos c4]
          refine mm2 S _ hs (fun _ _ _ => rfl) ?_
          rw [if_pos c3, if_pos c4]
          exact ⟨rfl, h⟩
        · rw [if_neg c4, (rw_o hs hi).2, dn_e, lt_e, rw_n hl hi, as_e (by omega) (by decide)]
          refine mm2 _ _ (hs.sI _ _ _) (fun r k q => hI_row q) ?_
          rw [if_pos c3, if_neg c4]
          exact ⟨rfl, h.cell hi (by omega) (num16 _)⟩
      · rw [if_neg c3]
        by_cases c4 : a3 = -1000000005
        · rw [if_pos c4, (rw_o hs hi).2, dn_e, rw_n hl hi, as_e (by omega) (by decide)]
          refine mm2 _ _ (hs.sI _ _ _) (fun r k q => hI_row q) ?_
          rw [if_neg c3, if_pos (Or.inl c4)]
          exact ⟨rfl, h.cell hi (by omega) (Or.inl c4)⟩
        rw [if_neg c4]
        by_cases c5 : a3 < -99999
        · rw [if_pos c5]
          refine mm2 S _ hs (fun _ _ _ => rfl) ?_
          rw [if_neg c3, if_neg (by rintro (q | q); exact c4 q; exact absurd c5 (Int32.not_lt.mpr q.1))]
          exact ⟨rfl, h⟩
        rw [if_neg c5]
        by_cases c6 : a3 ≤ 99999
        · rw [if_pos c6, (rw_o hs hi).2, dn_e, rw_n hl hi, as_e (by omega) (by decide)]
          refine mm2 _ _ (hs.sI _ _ _) (fun r k q => hI_row q) ?_
          rw [if_neg c3, if_pos (Or.inr ⟨Int32.not_lt.mp c5, c6⟩)]
          exact ⟨rfl, h.cell hi (by omega) (Or.inr ⟨Int32.not_lt.mp c5, c6⟩)⟩
        · rw [if_neg c6]
          refine mm2 S _ hs (fun _ _ _ => rfl) ?_
          rw [if_neg c3, if_neg (by rintro (q | q); exact c4 q; exact c6 q.2)]
          exact ⟨rfl, h⟩
    · rw [bI_f c2, if_pos rfl]
      unfold wpX8_mark
      dsimp only
      rw [p_mSheet, shE, bI_t c, if_neg (by decide), sh68_24 hs, dn_e, ln82 hl, al_e hi (by decide), if_pos p0, sh68_25 hs, dn_e, ln83 hl, al_e hi (by decide), l3, lt_e, p_in, plE l1, bI_f c2, if_pos rfl]
      exact ⟨rfl, h⟩
  · rw [bI_f c, if_pos rfl]
    unfold wpX8_mark
    dsimp only
    rw [p_mSheet, shE, bI_f c, if_pos rfl]
    exact ⟨rfl, h⟩
