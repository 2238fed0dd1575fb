/-! steps: one thing set, and what is asked of a slot or of one of the people -/
theorem slE (x : Int32) : bI (0 ≤ x ∧ x ≤ 4) = bI (0 ≤ x ∧ x < 5) := rngE (n := 5) rfl 5 rfl
theorem shE (x : Int32) : bI (0 ≤ x ∧ x ≤ 3) = bI (0 ≤ x ∧ x < 4) := rngE (n := 4) rfl 4 rfl
theorem kiE (x : Int32) : bI (0 ≤ x ∧ x ≤ 5) = bI (0 ≤ x ∧ x < 6) := rngE (n := 6) rfl 6 rfl
theorem chE (x : Int32) : bI (0 ≤ x ∧ x ≤ 7) = bI (0 ≤ x ∧ x < 8) := rngE (n := 8) rfl 8 rfl
theorem sl_o {S : HC} (h : SH S) {i : Nat} (hi : i < 5) : hR S 42 i = some (53 + 3 * i) ∧ hR S (53 + 3 * i) 4 = some (54 + 3 * i) ∧ hR S (54 + 3 * i) 2 = some (55 + 3 * i) := by
  rcases (show i = 0 ∨ i = 1 ∨ i = 2 ∨ i = 3 ∨ i = 4 by omega) with rfl | rfl | rfl | rfl | rfl
  · exact ⟨sh42_0 h, sh53_4 h, sh54_2 h⟩
  · exact ⟨sh42_1 h, sh56_4 h, sh57_2 h⟩
  · exact ⟨sh42_2 h, sh59_4 h, sh60_2 h⟩
  · exact ⟨sh42_3 h, sh62_4 h, sh63_2 h⟩
  · exact ⟨sh42_4 h, sh65_4 h, sh66_2 h⟩
theorem sl_n {ln : Nat → Nat} (h : LN ln) {i : Nat} (hi : i < 5) : ln (55 + 3 * i) = 24 := by
  rcases (show i = 0 ∨ i = 1 ∨ i = 2 ∨ i = 3 ∨ i = 4 by omega) with rfl | rfl | rfl | rfl | rfl
  · exact ln55 h
  · exact ln58 h
  · exact ln61 h
  · exact ln64 h
  · exact ln67 h
theorem rw_o {S : HC} (h : SH S) {i : Nat} (hi : i < 4) : hR S 41 i = some (45 + 2 * i) ∧ hR S (45 + 2 * i) 2 = some (46 + 2 * i) := by
  rcases (show i = 0 ∨ i = 1 ∨ i = 2 ∨ i = 3 by omega) with rfl | rfl | rfl | rfl
  · exact ⟨sh41_0 h, sh45_2 h⟩
  · exact ⟨sh41_1 h, sh47_2 h⟩
  · exact ⟨sh41_2 h, sh49_2 h⟩
  · exact ⟨sh41_3 h, sh51_2 h⟩
theorem rw_n {ln : Nat → Nat} (h : LN ln) {i : Nat} (hi : i < 4) : ln (46 + 2 * i) = 24 := by
  rcases (show i = 0 ∨ i = 1 ∨ i = 2 ∨ i = 3 by omega) with rfl | rfl | rfl | rfl
  · exact ln46 h
  · exact ln48 h
  · exact ln50 h
  · exact ln52 h
theorem s_set {N : Nat} {ln : Nat → Nat} {S : HC} (h : PI N ln S) (a1 a2 a3 : Int32) : wpX7_set ln S 0 a1 a2 a3 fun v S => wpX8_set ln S 68 a1 a2 a3 fun w S => OK N ln v w S := by
  obtain ⟨⟨hs, hl, -, -⟩, ⟨⟨n, hn⟩, hw⟩, -⟩ := id h
  have h14 := hn.1
  unfold wpX7_set BX7_set_50 BX7_set_90 BX7_set_94
  simp only [sh0_0 hs, sh1_4 hs, sh1_5 hs, dn_e, p_has, p_isCharge]
  rcases i_in a1 n (by omega) with ⟨j, hj, rfl⟩ | hx
  · rw [hasT hn.2.1 hn.1 hj, if_neg (by decide)]
    have no : ¬ ((a2 = 4 ∧ 0 ≤ a3 ∧ a3 < 8) ∨ (a2 = 5 ∧ 0 ≤ a3 ∧ a3 ≤ 255)) → wpX8_set ln S 68 (nI j) a2 a3 fun w S => OK N ln (-1000000001) w S := fun q => by
      unfold wpX8_set BX8_set_32 BX8_set_54
      simp only [p_isOne hs hl, p_in]
      rw [oneT hn.2.2.1 h14 hj, if_neg (by decide)]
      by_cases e : 4 ≤ a2 ∧ a2 ≤ 5
      · rw [bI_t e, if_neg (by decide)]
        by_cases e4 : a2 = 4
        · rw [if_pos e4, bI_f (fun u => q (Or.inl ⟨e4, u.1, Int32.lt_of_le_of_lt u.2 (by decide)⟩)), if_pos rfl]
          exact ⟨rfl, h⟩
        · have e5 : a2 = 5 := by
            simp only [i_le, i_eq] at e e4 ⊢
            have : (4 : Int32).toInt = 4 := rfl
            have : (5 : Int32).toInt = 5 := rfl
            omega
          rw [if_neg e4, bI_f (fun u => q (Or.inr ⟨e5, u.1, u.2⟩)), if_pos rfl]
          exact ⟨rfl, h⟩
      · rw [bI_f e, if_pos rfl]
        exact ⟨rfl, h⟩
    by_cases e4 : a2 = 4
    · subst e4
      rw [if_pos rfl]
      by_cases c : 0 ≤ a3 ∧ a3 < 8
      · rw [bI_t c, if_neg (by decide), ln6 hl, al_e (by omega) (by decide), as_e (by omega) (by decide)]
        unfold wpX8_set BX8_set_32 BX8_set_54
        simp only [p_isOne (hs.sI 6 j a3) hl, p_in, lt_e]
        rw [oneT (n := n) (by rw [hI_row (by decide)]; exact hn.2.2.1) h14 hj, if_neg (by decide), bI_t (by decide), if_neg (by decide), if_pos trivial, bI_t ⟨c.1, by have := c.2; simp only [i_le, i_lt] at *; have : (8 : Int32).toInt = 8 := rfl; have : (7 : Int32).toInt = 7 := rfl; omega⟩, if_neg (by decide), show (6 : Int32) * nI j = nI (6 * j) from pk_mul 6 j, show (5 : Int32) + nI (6 * j) = nI (5 + 6 * j) from nI_add 5 (6 * j), show nI (5 + 6 * j) + (4 : Int32) = nI (5 + 6 * j + 4) from nI_add _ 4, p_becomes (hs.sI _ _ _) hl (by omega)]
        obtain ⟨d, hd, rfl⟩ := ge_of (n := 8) (by decide) c
        refine ⟨?_, h.pers (k := 4) hn (by decide) hj ⟨by omega, by omega, by omega, fun _ => ⟨d, hd, rfl⟩, by omega⟩⟩
        rw [hI_row (by decide)]
        exact hn.2.2.2.1 4 (by decide) j hj
      · rw [bI_f c, if_pos rfl, if_neg (by decide)]
        exact no (fun q => by
          rcases q with q | q
          · exact c q.2
          · exact absurd q.1 (by decide))
    · rw [if_neg e4]
      by_cases e5 : a2 = 5
      · subst e5
        rw [if_pos rfl]
        by_cases c1 : a3 < 0
        · rw [if_pos c1]
          exact no (fun q => by
            rcases q with q | q
            · exact e4 q.1
            · exact absurd c1 (Int32.not_lt.mpr q.2.1))
        rw [if_neg c1]
        by_cases c2 : 255 < a3
        · rw [if_pos c2]
          exact no (fun q => by
            rcases q with q | q
            · exact e4 q.1
            · exact absurd c2 (Int32.not_lt.mpr q.2.2))
        rw [if_neg c2, ln7 hl, al_e (by omega) (by decide), as_e (by omega) (by decide)]
        unfold wpX8_set BX8_set_32 BX8_set_54
        simp only [p_isOne (hs.sI 7 j a3) hl, p_in, lt_e]
        rw [oneT (n := n) (by rw [hI_row (by decide)]; exact hn.2.2.1) h14 hj, if_neg (by decide), bI_t (by decide), if_neg (by decide), if_neg (by decide), bI_t ⟨Int32.not_lt.mp c1, Int32.not_lt.mp c2⟩, if_neg (by decide), show (6 : Int32) * nI j = nI (6 * j) from pk_mul 6 j, show (5 : Int32) + nI (6 * j) = nI (5 + 6 * j) from nI_add 5 (6 * j), show nI (5 + 6 * j) + (5 : Int32) = nI (5 + 6 * j + 5) from nI_add _ 5, p_becomes (hs.sI _ _ _) hl (by omega)]
        obtain ⟨d, hd, rfl⟩ := nI_of2 (n := 255) (M := 255) (x := a3) rfl c1 (Int32.not_lt.mp c2)
        refine ⟨?_, h.pers (k := 5) hn (by decide) hj ⟨by omega, by omega, by omega, by omega, fun _ => ⟨d, by omega, rfl⟩⟩⟩
        rw [hI_row (by decide)]
        exact hn.2.2.2.1 5 (by decide) j hj
      · rw [if_neg e5]
        exact no (fun q => by
          rcases q with q | q
          · exact e4 q.1
          · exact e5 q.1)
  · rw [hasF hn.2.1 hx, if_pos rfl]
    unfold wpX8_set BX8_set_54
    simp only [p_isOne hs hl]
    rw [oneF hn.2.2.1 h14 hx, if_pos rfl]
    exact ⟨rfl, h⟩
theorem s_as {N : Nat} {ln : Nat → Nat} {S : HC} (h : PI N ln S) (a1 a2 : Int32) : wpX7_as ln S 0 a1 a2 fun v S => wpX8_as ln S 68 a1 a2 fun w S => OK N ln v w S := by
  obtain ⟨⟨hs, hl, -, -⟩, ⟨⟨n, hn⟩, hw⟩, -⟩ := id h
  have h14 := hn.1
  unfold wpX7_as BX7_as_18
  simp only [sh0_0 hs, sh1_0 hs, dn_e, p_has, p_isKind]
  rcases i_in a1 n (by omega) with ⟨j, hj, rfl⟩ | hx
  · rw [hasT hn.2.1 h14 hj, if_neg (by decide)]
    by_cases c : 0 ≤ a2 ∧ a2 < 6
    · rw [bI_t c, if_neg (by decide), ln2 hl, al_e (by omega) (by decide)]
      obtain ⟨d, hd, e⟩ := hn.2.2.2.2.1.kind hj
      have ex : hI S 2 j = nI d := (hn.2.2.2.1 0 (by decide) j hj).trans e
      rw [ex]
      refine p_isOfKind hd (fun u => ?_) (fun u => ?_)
      · rw [if_neg (by decide), sh0_0 hs, dn_e, sh1_4 hs, dn_e, ln6 hl, al_e (by omega) (by decide)]
        unfold wpX8_as BX8_as_17
        simp only [p_isOne hs hl, p_in, kiE]
        rw [oneT hn.2.2.1 h14 hj, if_neg (by decide), bI_t c, if_neg (by decide), p_of0 hs hl (by omega), e]
        refine p_isUnder (fun _ => ?_) (fun q => absurd u q)
        rw [if_neg (by decide), p_of4 hs hl (by omega)]
        exact ⟨hn.2.2.2.1 4 (by decide) j hj, h⟩
      · rw [if_pos rfl]
        unfold wpX8_as BX8_as_17
        simp only [p_isOne hs hl, p_in, kiE]
        rw [oneT hn.2.2.1 h14 hj, if_neg (by decide), bI_t c, if_neg (by decide), p_of0 hs hl (by omega), e]
        refine p_isUnder (fun q => absurd q u) (fun _ => ?_)
        rw [if_pos rfl]
        exact ⟨rfl, h⟩
    · rw [bI_f c, if_pos rfl]
      unfold wpX8_as BX8_as_17
      simp only [p_isOne hs hl, p_in, kiE]
      rw [oneT hn.2.2.1 h14 hj, if_neg (by decide), bI_f c, if_pos rfl]
      exact ⟨rfl, h⟩
  · rw [hasF hn.2.1 hx, if_pos rfl]
    unfold wpX8_as BX8_as_17
    simp only [p_isOne hs hl, p_in, kiE]
    rw [oneF hn.2.2.1 h14 hx, if_pos rfl]
    exact ⟨rfl, h⟩
/-- an heiress -/
abbrev herP (n : Nat) (f : Nat → Nat → Int32) (j : Nat) : Prop := f 3 j = 1 ∧ (f 1 j = -1 ∨ ∀ i, i < n → ¬ (f 3 i = 0 ∧ f 1 i = f 1 j))
theorem p_isHeir {ln : Nat → Nat} {S : HC} {b n j : Nat} {f : Nat → Nat → Int32} {post : Int32 → HC → Prop} (hs : SH S) (hl : LN ln) (hb : LB b) (hn : hI S b 6 = nI n) (hf : AG n (xf S b) f) (h14 : n ≤ 14) (hj : j < n) (h : herP n f j → post 1 S) (h2 : ¬ herP n f j → post 0 S) : wpX0_isHeiress ln S b (nI j) post := by
  have ef : ∀ k i, k < 6 → i < n → hI S (b + 1 + k) i = f k i := fun k i q1 q2 => hf k q1 i q2
  unfold wpX0_isHeiress BX0_isHeiress_18
  rw [p_has, hasT hn h14 hj, if_neg (by decide), lb_r hs hb (i := 3) (by decide), dn_e, lb_n hl hb (i := 3) (by decide), al_e (by omega) (by decide), ef 3 j (by decide) hj, lb_r hs hb (i := 1) (by decide), dn_e, lb_n hl hb (i := 1) (by decide), al_e (by omega) (by decide), ef 1 j (by decide) hj, rb_e1, rb_e0]
  by_cases e1 : f 3 j = 1
  · rw [if_pos e1]
    by_cases e2 : f 1 j = -1
    · rw [if_pos e2]; exact h ⟨e1, Or.inl e2⟩
    · rw [if_neg e2]
      refine ⟨n + 1, ?_⟩
      have key : ∀ m i, i + m = n → (∀ k, k < i → ¬ (f 3 k = 0 ∧ f 1 k = f 1 j)) → LX0_isHeiress_34 ln post (m + 1) S b (nI j) (nI i) := by
        intro m
        induction m with
        | zero =>
          intro i hi ha
          rw [LX0_isHeiress_34]
          dsimp only
          rw [lt_e, hn, if_pos (nI_le (by omega) (by omega)), rb_e1]
          exact h ⟨e1, Or.inr (fun k hk => ha k (by omega))⟩
        | succ m ih =>
          intro i hi ha
          rw [LX0_isHeiress_34]
          dsimp only
          unfold BX0_isHeiress_68
          rw [lt_e, hn, if_neg (nI_ge (by omega) (by omega)), lb_r hs hb (i := 3) (by decide), dn_e, lb_n hl hb (i := 3) (by decide), al_e (by omega) (by decide), ef 3 i (by decide) (by omega), lb_r hs hb (i := 1) (by decide)]
          simp only [dn_e, lb_n hl hb (i := 1) (by decide), al_e (i := i) (n := 14) (by omega) (by decide), al_e (i := j) (n := 14) (by omega) (by decide), ef 1 i (by decide) (by omega), ef 1 j (by decide) hj, lt_e, rb_e0]
          rw [show nI i + 1 = nI (i + 1) from nI_1 i]
          by_cases c1 : f 3 i = 0
          · rw [if_pos c1]
            by_cases c2 : f 1 i = f 1 j
            · rw [if_pos c2]
              refine h2 (fun q => ?_)
              rcases q.2 with q | q
              · exact e2 q
              · exact q i (by omega) ⟨c1, c2⟩
            · rw [if_neg c2]
              refine ih (i + 1) (by omega) (fun k hk => ?_)
              rcases (show k < i ∨ k = i by omega) with q | rfl
              · exact ha k q
              · exact fun u => c2 u.2
          · rw [if_neg c1]
            refine ih (i + 1) (by omega) (fun k hk => ?_)
            rcases (show k < i ∨ k = i by omega) with q | rfl
            · exact ha k q
            · exact fun u => c1 u.1
      exact key n 0 (by omega) (fun k hk => absurd hk (by omega))
  · rw [if_neg e1]; exact h2 (fun q => e1 q.1)
theorem p_mHeir {ln : Nat → Nat} {S : HC} {n j : Nat} {f : Nat → Nat → Int32} {post : Int32 → HC → Prop} (hs : SH S) (hl : LN ln) (hn : hI S 69 1 = nI n) (hf : AG n (mf S 69) f) (hv : VP n f) (h14 : n ≤ 14) (hj : j < n) (h : herP n f j → post 1 S) (h2 : ¬ herP n f j → post 0 S) : wpX8_isHeiress ln S 68 (nI j) post := by
  have ef : ∀ k i, k < 6 → i < n → mf S 69 k i = f k i := fun k i q1 q2 => hf k q1 i q2
  unfold wpX8_isHeiress BX8_isHeiress_15
  rw [p_of3 hs hl (by omega), ef 3 j (by decide) hj]
  have key0 : ∀ m i, i + m = n → post 0 S → LX8_isHeiress_18 ln post (m + 1) S 68 (nI j) 0 (nI i) := by
    intro m
    induction m with
    | zero =>
      intro i hi hp
      rw [LX8_isHeiress_18]
      dsimp only
      rw [sh68_0 hs, dn_e, ln69 hl, al_l1 (by decide) (by decide), hn, if_pos (nI_le (by omega) (by omega)), rb_e0]
      exact hp
    | succ m ih =>
      intro i hi hp
      rw [LX8_isHeiress_18]
      dsimp only
      unfold BX8_isHeiress_69 BX8_isHeiress_70
      rw [sh68_0 hs, dn_e, ln69 hl, al_l1 (by decide) (by decide), hn, if_neg (nI_ge (by omega) (by omega)), if_pos rfl, lt_e, nI_1]
      exact ih (i + 1) (by omega) hp
  by_cases e1 : f 3 j = 1
  · rw [if_pos e1]
    refine ⟨n + 1, ?_⟩
    have key : ∀ m i, i + m = n → (f 1 j = -1 ∨ ∀ k, k < i → ¬ (f 3 k = 0 ∧ f 1 k = f 1 j)) → LX8_isHeiress_18 ln post (m + 1) S 68 (nI j) 1 (nI i) := by
      intro m
      induction m with
      | zero =>
        intro i hi ha
        rw [LX8_isHeiress_18]
        dsimp only
        rw [sh68_0 hs, dn_e, ln69 hl, al_l1 (by decide) (by decide), hn, if_pos (nI_le (by omega) (by omega)), rb_e1]
        exact h ⟨e1, ha.imp id (fun u k hk => u k (by omega))⟩
      | succ m ih =>
        intro i hi ha
        rw [LX8_isHeiress_18]
        dsimp only
        unfold BX8_isHeiress_69 BX8_isHeiress_65 BX8_isHeiress_70
        rw [sh68_0 hs, dn_e, ln69 hl, al_l1 (by decide) (by decide), hn, if_neg (nI_ge (by omega) (by omega)), if_neg (by decide)]
        simp only [p_of3 hs hl (show i < 200 by omega), p_of1 hs hl (show j < 200 by omega), p_of1 hs hl (show i < 200 by omega), lt_e, ef 3 i (by decide) (by omega), ef 1 i (by decide) (by omega), ef 1 j (by decide) hj]
        rw [show nI i + 1 = nI (i + 1) from nI_1 i]
        by_cases c1 : f 3 i = 0
        · rw [if_pos c1]
          by_cases c0 : f 1 j < 0
          · rw [if_pos c0]
            refine ih (i + 1) (by omega) (Or.inl ?_)
            rcases hv.fat hj with q | ⟨p, hp, q⟩
            · exact q
            · rw [q] at c0; exact absurd c0 (nI_pos (by omega))
          rw [if_neg c0]
          by_cases c2 : f 1 i = f 1 j
          · rw [if_pos c2]
            refine key0 m (i + 1) (by omega) (h2 (fun q => ?_))
            rcases q.2 with q | q
            · rw [q] at c0; exact c0 (by decide)
            · exact q i (by omega) ⟨c1, c2⟩
          · rw [if_neg c2]
            refine ih (i + 1) (by omega) (ha.imp id (fun u k hk => ?_))
            rcases (show k < i ∨ k = i by omega) with q | rfl
            · exact u k q
            · exact fun u => c2 u.2
        · rw [if_neg c1]
          refine ih (i + 1) (by omega) (ha.imp id (fun u k hk => ?_))
          rcases (show k < i ∨ k = i by omega) with q | rfl
          · exact u k q
          · exact fun u => c1 u.1
    exact key n 0 (by omega) (Or.inr (fun k hk => absurd hk (by omega)))
  · rw [if_neg e1]
    exact ⟨n + 1, key0 n 0 (by omega) (h2 (fun q => e1 q.1))⟩
theorem s_told {N : Nat} {ln : Nat → Nat} {S : HC} (h : PI N ln S) (a1 a2 : Int32) : wpX7_told ln S 0 a1 a2 fun v S => wpX8_told ln S 68 a1 a2 fun w S => OK N ln v w S := by
  obtain ⟨⟨hs, hl, -, -⟩, ⟨⟨n, hn⟩, hw⟩, -⟩ := id h
  have h14 := hn.1
  unfold wpX7_told
  simp only [sh0_0 hs, dn_e, p_has]
  rcases i_in a1 n (by omega) with ⟨j, hj, rfl⟩ | hx
  · rw [hasT hn.2.1 h14 hj, if_neg (by decide)]
    have ea : ∀ k, k < 6 → hI S (1 + 1 + k) j = mf S 69 k j := fun k q => hn.2.2.2.1 k q j hj
    have m6 : ∀ k v, k < 6 → v = mf S 69 k j → wpX8_told ln S 68 (nI j) (nI k) fun w S => OK N ln v w S := fun k v hk hv => by
      unfold wpX8_told BX8_told_18
      simp only [p_isOne hs hl, p_in]
      rw [oneT hn.2.2.1 h14 hj, if_neg (by decide), bI_t ⟨nI_pos' (by omega), show nI k ≤ 7 from nI_le (b := 7) (by omega) (by decide)⟩, if_neg (by decide), if_neg (show ¬ (6 : Int32) ≤ nI k from nI_ge (b := 6) hk (by decide)), p_of hs hl (by omega) hk]
      exact ⟨hv, h⟩
    rcases i_in a2 8 (by decide) with ⟨k, hk, rfl⟩ | hx
    · rcases (show k = 0 ∨ k = 1 ∨ k = 2 ∨ k = 3 ∨ k = 4 ∨ k = 5 ∨ k = 6 ∨ k = 7 by omega) with rfl | rfl | rfl | rfl | rfl | rfl | rfl | rfl
      · rw [if_pos (by decide), sh1_0 hs, dn_e, ln2 hl, al_e (by omega) (by decide)]
        exact m6 0 _ (by decide) (ea 0 (by decide))
      · rw [if_neg (by decide), if_pos (by decide), sh1_1 hs, dn_e, ln3 hl, al_e (by omega) (by decide)]
        exact m6 1 _ (by decide) (ea 1 (by decide))
      · rw [if_neg (by decide), if_neg (by decide), if_pos (by decide), sh1_2 hs, dn_e, ln4 hl, al_e (by omega) (by decide)]
        exact m6 2 _ (by decide) (ea 2 (by decide))
      · rw [if_neg (by decide), if_neg (by decide), if_neg (by decide), if_pos (by decide), sh1_3 hs, dn_e, ln5 hl, al_e (by omega) (by decide)]
        exact m6 3 _ (by decide) (ea 3 (by decide))
      · rw [if_neg (by decide), if_neg (by decide), if_neg (by decide), if_neg (by decide), if_pos (by decide), sh1_4 hs, dn_e, ln6 hl, al_e (by omega) (by decide)]
        exact m6 4 _ (by decide) (ea 4 (by decide))
      · rw [if_neg (by decide), if_neg (by decide), if_neg (by decide), if_neg (by decide), if_neg (by decide), if_pos (by decide), sh1_5 hs, dn_e, ln7 hl, al_e (by omega) (by decide)]
        exact m6 5 _ (by decide) (ea 5 (by decide))
      · rw [if_neg (by decide), if_neg (by decide), if_neg (by decide), if_neg (by decide), if_neg (by decide), if_neg (by decide), if_pos (by decide)]
        refine p_isHeir hs hl (Or.inl rfl) hn.2.1 hn.2.2.2.1 h14 hj (fun u => ?_) (fun u => ?_)
        · rw [if_neg (by decide)]
          unfold wpX8_told BX8_told_18
          simp only [p_isOne hs hl, p_in]
          rw [oneT hn.2.2.1 h14 hj, if_neg (by decide), bI_t (by decide), if_neg (by decide), if_pos (by decide), if_neg (by decide)]
          refine p_mHeir hs hl hn.2.2.1 (fun _ _ _ _ => rfl) hn.2.2.2.2.1 h14 hj (fun _ => ?_) (fun q => absurd u q)
          rw [if_neg (by decide)]
          exact ⟨rfl, h⟩
        · rw [if_pos rfl]
          unfold wpX8_told BX8_told_18
          simp only [p_isOne hs hl, p_in]
          rw [oneT hn.2.2.1 h14 hj, if_neg (by decide), bI_t (by decide), if_neg (by decide), if_pos (by decide), if_neg (by decide)]
          refine p_mHeir hs hl hn.2.2.1 (fun _ _ _ _ => rfl) hn.2.2.2.2.1 h14 hj (fun q => absurd q u) (fun _ => ?_)
          rw [if_pos rfl]
          exact ⟨rfl, h⟩
      · rw [if_neg (by decide), if_neg (by decide), if_neg (by decide), if_neg (by decide), if_neg (by decide), if_neg (by decide), if_neg (by decide), if_pos (by decide), sh1_0 hs, dn_e, ln2 hl, al_e (by omega) (by decide), sh1_4 hs, dn_e, ln6 hl, al_e (by omega) (by decide), p_worth]
        unfold wpX8_told BX8_told_18
        simp only [p_isOne hs hl, p_in]
        rw [oneT hn.2.2.1 h14 hj, if_neg (by decide), bI_t (by decide), if_neg (by decide), if_pos (by decide), if_pos (by decide), p_mworth hs hl (by omega)]
        exact ⟨by rw [show hI S 2 j = mf S 69 0 j from ea 0 (by decide), show hI S 6 j = mf S 69 4 j from ea 4 (by decide)], h⟩
    · have ne : ∀ k, k < 8 → ¬ a2 = nI k := fun k hk q => by
        rw [q] at hx
        rcases hx with hx | hx
        · exact absurd hx (nI_pos (by omega))
        · exact absurd hx (nI_ge hk (by decide))
      rw [if_neg (show ¬ a2 = 0 from ne 0 (by decide)), if_neg (show ¬ a2 = 1 from ne 1 (by decide)), if_neg (show ¬ a2 = 2 from ne 2 (by decide)), if_neg (show ¬ a2 = 3 from ne 3 (by decide)), if_neg (show ¬ a2 = 4 from ne 4 (by decide)), if_neg (show ¬ a2 = 5 from ne 5 (by decide)), if_neg (show ¬ a2 = 6 from ne 6 (by decide)), if_neg (show ¬ a2 = 7 from ne 7 (by decide))]
      unfold wpX8_told BX8_told_18
      simp only [p_isOne hs hl, p_in]
      rw [oneT hn.2.2.1 h14 hj, if_neg (by decide), chE, bI_f (fun q => by
        rcases hx with hx | hx
        · exact absurd hx (Int32.not_lt.mpr q.1)
        · exact absurd hx (Int32.not_le.mpr q.2)), if_pos rfl]
      exact ⟨rfl, h⟩
  · rw [hasF hn.2.1 hx, if_pos rfl]
    unfold wpX8_told BX8_told_18
    simp only [p_isOne hs hl]
    rw [oneF hn.2.2.1 h14 hx, if_pos rfl]
    exact ⟨rfl, h⟩
