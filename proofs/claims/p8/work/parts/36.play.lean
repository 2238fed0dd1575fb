/-! steps: something laid into a slot; a row copied -/
theorem lay_end {N : Nat} {ln : Nat → Nat} {S S4 : HC} {i : Nat} (h : PI N ln S) (hi : i < 5) (hr : ∀ r k, hR S4 r k = hR S r k) (ho : ∀ r k, ¬ (r = 53 + 3 * i ∨ r = 54 + 3 * i ∨ r = 55 + 3 * i ∨ ((r = 85 ∨ r = 86 ∨ r = 87) ∧ k = i) ∨ (r = 88 ∧ 24 * i ≤ k ∧ k < 24 * i + 24)) → hI S4 r k = hI S r k) (hq : hI S4 (53 + 3 * i) 0 = hI S4 85 i ∧ ((hI S4 85 i = 0) ∨ (hI S4 85 i = 1 ∧ hI S4 (53 + 3 * i) 1 = hI S4 86 i ∧ (∃ c, c < 6 ∧ hI S4 86 i = nI c) ∧ hI S4 87 i = wrth (hI S4 86 i) (hI S4 (53 + 3 * i) 2)) ∨ (hI S4 85 i = 2 ∧ (∃ l, l ≤ 24 ∧ hI S4 (54 + 3 * i) 1 = nI l ∧ hI S4 86 i = nI l) ∧ ∀ j, j < 24 → hI S4 (55 + 3 * i) j = hI S4 88 (24 * i + j)) ∨ (hI S4 85 i = 3 ∧ hI S4 (53 + 3 * i) 3 = hI S4 86 i))) : PI N ln S4 := by
  refine h.slt hr (fun r k q => ho r k (by omega)) (fun t ht => ?_)
  by_cases e : t = i
  · rw [e]; exact hq
  · have a := h.2.2.2.2.2.1 t ht
    have e1 : ∀ j, hI S4 (55 + 3 * t) j = hI S (55 + 3 * t) j := fun j => ho _ _ (by omega)
    have e2 : ∀ j, j < 24 → hI S4 88 (24 * t + j) = hI S 88 (24 * t + j) := fun j hj => ho _ _ (by omega)
    rw [ho (53 + 3 * t) 0 (by omega), ho (53 + 3 * t) 1 (by omega), ho (53 + 3 * t) 2 (by omega), ho (53 + 3 * t) 3 (by omega), ho (54 + 3 * t) 1 (by omega), ho 85 t (by omega), ho 86 t (by omega), ho 87 t (by omega)]
    refine ⟨a.1, a.2.imp id (fun b => b.imp id (fun b => b.imp (fun b => ⟨b.1, b.2.1, fun j hj => ?_⟩) id))⟩
    rw [e1 j, e2 j hj]
    exact b.2.2 j hj
theorem p_rowBecome {ln : Nat → Nat} {S : HC} {i t : Nat} {post : HC → Prop} (hs : SH S) (hl : LN ln) (hi : i < 5) (ht : t < 4) (h : ∀ S', Fl (sI (sI S (54 + 3 * i) 0 (hI S (45 + 2 * t) 0)) (54 + 3 * i) 1 (hI S (45 + 2 * t) 1)) S' (55 + 3 * i) 0 24 (fun j => hI S (46 + 2 * t) j) → post S') : wpX3_become ln S (54 + 3 * i) (45 + 2 * t) post := by
  unfold wpX3_become
  simp only [lt_e]
  rw [hI_row (show 45 + 2 * t ≠ 54 + 3 * i by omega)]
  generalize hS0 : sI (sI S (54 + 3 * i) 0 (hI S (45 + 2 * t) 0)) (54 + 3 * i) 1 (hI S (45 + 2 * t) 1) = S0 at h
  have hs0 : SH S0 := by rw [← hS0]; exact hs
  have e0 : ∀ j, hI S0 (46 + 2 * t) j = hI S (46 + 2 * t) j := fun j => by rw [← hS0, hI_row (by omega), hI_row (by omega)]
  have key : ∀ m j S', j + m = 24 → Fl S0 S' (55 + 3 * i) 0 j (fun j => hI S (46 + 2 * t) j) → LX3_become_18 ln post (m + 1) S' (54 + 3 * i) (45 + 2 * t) (nI j) := by
    intro m
    induction m with
    | zero =>
      intro j S' hj hF
      rw [LX3_become_18]
      dsimp only
      rw [if_pos (show (24 : Int32) ≤ nI j from nI_le (a := 24) (by omega) (by omega))]
      have ej : j = 24 := by omega
      rw [ej] at hF
      exact h S' hF
    | succ m ih =>
      intro j S' hj hF
      rw [LX3_become_18]
      dsimp only
      rw [if_neg (show ¬ (24 : Int32) ≤ nI j from nI_ge (b := 24) (by omega) (by decide)), (sl_o (hF.sh hs0) hi).2.2, dn_e, (rw_o (hF.sh hs0) ht).2, dn_e, rw_n hl ht, al_e (by omega) (by decide), sl_n hl hi, as_e (by omega) (by decide), lt_e, nI_1]
      exact ih (j + 1) _ (by omega) (hF.step (by omega) (by rw [hF.o (by omega), e0]))
  exact ⟨25, key 24 0 S0 (by omega) (Fl.rf _ _ _ _)⟩
theorem p_mlay2 {ln : Nat → Nat} {S : HC} {i t : Nat} {x4 : Int32} {post : Int32 → HC → Prop} (hs : SH S) (hl : LN ln) (hi : i < 5) (ht : t < 4) (h : ∀ S', Fl S S' 88 (24 * i) (24 * i + 24) (fun b => hI S 84 (24 * t + (b - 24 * i))) → post x4 S') : ∃ n, LX8_lay_134 ln post n S 68 (nI i) 2 (nI t) x4 0 := by
  have key : ∀ m j S', j + m = 24 → Fl S S' 88 (24 * i) (24 * i + j) (fun b => hI S 84 (24 * t + (b - 24 * i))) → LX8_lay_134 ln post (m + 1) S' 68 (nI i) 2 (nI t) x4 (nI j) := by
    intro m
    induction m with
    | zero =>
      intro j S' hj hF
      rw [LX8_lay_134]
      dsimp only
      unfold BX8_lay_176
      rw [if_pos (show (24 : Int32) ≤ nI j from nI_le (a := 24) (by omega) (by omega))]
      have ej : j = 24 := by omega
      rw [ej] at hF
      exact h S' hF
    | succ m ih =>
      intro j S' hj hF
      rw [LX8_lay_134]
      dsimp only
      rw [if_neg (show ¬ (24 : Int32) ≤ nI j from nI_ge (b := 24) (by omega) (by decide)), if_pos (by decide), sh68_30 (hF.sh hs), sh68_26 (hF.sh hs)]
      simp only [dn_e, lt_e]
      rw [show (24 : Int32) * nI i = nI (24 * i) from pk_mul 24 i, show (24 : Int32) * nI t = nI (24 * t) from pk_mul 24 t, nI_add, nI_add, ln84 hl, al_e (by omega) (by decide), ln88 hl, as_e (by omega) (by decide), nI_1]
      exact ih (j + 1) _ (by omega) (hF.step (by omega) (by rw [hF.o (by decide), show 24 * i + j - 24 * i = j by omega]))
  exact ⟨25, key 24 0 S (by omega) (Fl.rf _ _ _ _)⟩
theorem p_mlay0 {ln : Nat → Nat} {S : HC} {x1 x2 x3 x4 : Int32} {post : Int32 → HC → Prop} (h2 : ¬ x2 = 2) (h : post x4 S) : ∃ n, LX8_lay_134 ln post n S 68 x1 x2 x3 x4 0 := by
  refine ⟨1, ?_⟩
  rw [LX8_lay_134]
  dsimp only
  unfold BX8_lay_176
  rw [if_neg (by decide), if_neg h2]
  exact h
theorem s_lay {N : Nat} {ln : Nat → Nat} {S : HC} (h : PI N ln S) (a1 a2 a3 : Int32) : wpX7_lay ln S 0 a1 a2 a3 fun v S => wpX8_lay ln S 68 a1 a2 a3 fun w S => OK N ln v w S := by
  obtain ⟨⟨hs, hl, -, -⟩, ⟨⟨n, hn⟩, -⟩, -, -, hr, hsl, -⟩ := id h
  have h14 := hn.1
  unfold wpX7_lay BX7_lay_16 BX7_lay_47 BX7_lay_35 BX7_lay_50 BX7_lay_70 BX7_lay_155 BX7_lay_47
  rw [p_isSlot]
  by_cases c : 0 ≤ a1 ∧ a1 < 5
  · obtain ⟨i, hi, rfl⟩ := ge_of (n := 5) (by decide) c
    obtain ⟨q1, -⟩ := hsl i hi
    rw [bI_t c, if_neg (by decide)]
    have no : ¬ (0 ≤ a2 ∧ a2 < 4) → wpX8_lay ln S 68 (nI i) a2 a3 fun w S => OK N ln (-1000000001) w S := fun q => by
      unfold wpX8_lay BX8_lay_41
      dsimp only
      rw [p_mSlot, slE, bI_t c, if_neg (by decide), p_in, shE, bI_f q, if_pos rfl]
      exact ⟨rfl, h⟩
    by_cases c1 : a2 < 0
    · rw [if_pos c1]; exact no (fun q => absurd c1 (Int32.not_lt.mpr q.1))
    rw [if_neg c1]
    by_cases c2 : a2 ≤ 3
    · rw [if_pos c2]
      obtain ⟨s, hs4, rfl⟩ := nI_of2 (n := 3) (M := 3) (x := a2) rfl c1 c2
      have ks : bI (0 ≤ nI s ∧ nI s < 4) = 1 := bI_t ⟨nI_pos' (by omega), show nI s < 4 from nI_lt (b := 4) (by omega) (by decide)⟩
      by_cases s1 : s = 1
      · subst s1
        rw [if_pos (by decide), sh0_0 hs, dn_e, p_has]
        rcases i_in a3 n (by omega) with ⟨j, hj, rfl⟩ | hx
        · rw [hasT hn.2.1 h14 hj, if_neg (by decide), if_neg (by decide), if_neg (by decide)]
          simp only [hR_sI, sh0_7 hs, sh0_0 hs, sh1_0 hs, sh1_4 hs, dn_e, lt_e, ln42 hl, ln2 hl, ln6 hl, al_e (i := i) (n := 5) hi (by decide), (sl_o hs hi).1, al_e (i := j) (n := 14) (show j < 14 by omega) (by decide)]
          rw [if_pos (by decide), hI_row (show 6 ≠ 53 + 3 * i by omega), hI_row (show 6 ≠ 53 + 3 * i by omega), hI_row (show 2 ≠ 53 + 3 * i by omega), show hI S 2 j = mf S 69 0 j from hn.2.2.2.1 0 (by decide) j hj, show hI S 6 j = mf S 69 4 j from hn.2.2.2.1 4 (by decide) j hj, q1]
          generalize hS1 : sI (sI (sI S (53 + 3 * i) 0 (nI 1)) (53 + 3 * i) 1 (mf S 69 0 j)) (53 + 3 * i) 2 (mf S 69 4 j) = S1
          have hs1 : SH S1 := by rw [← hS1]; exact hs
          have e1 : ∀ r k, r ≠ 53 + 3 * i → hI S1 r k = hI S r k := fun r k q => by rw [← hS1, hI_row q, hI_row q, hI_row q]
          unfold wpX8_lay BX8_lay_29 BX8_lay_44 BX8_lay_61 BX8_lay_110 BX8_lay_130
          simp only [p_mSlot, slE, bI_t c, p_in, shE, ks, p_isOne hs1 hl]
          rw [if_neg (by decide), if_neg (by decide), if_pos (by decide), oneT (n := n) (by rw [e1 _ _ (by omega)]; exact hn.2.2.1) h14 hj, if_neg (by decide), if_neg (by decide), if_neg (by decide), sh68_27 hs1, dn_e, ln85 hl, al_e hi (by decide), dn_e, ln85 hl, as_e hi (by decide), sh68_28 (hs1.sI _ _ _), dn_e, if_pos (by decide), p_of0 (hs1.sI _ _ _) hl (by omega), ln86 hl, as_e hi (by decide), sh68_29 ((hs1.sI _ _ _).sI _ _ _), dn_e, if_pos (by decide), p_mworth ((hs1.sI _ _ _).sI _ _ _) hl (by omega), ln87 hl, as_e hi (by decide)]
          have f1 : ∀ k, mf (sI S1 85 i (nI 1)) 69 k j = mf S 69 k j := fun k => by unfold mf; rw [hI_row (by decide), e1 _ _ (by omega)]
          have f2 : ∀ k v, mf (sI (sI S1 85 i (nI 1)) 86 i v) 69 k j = mf S 69 k j := fun k v => by unfold mf; rw [hI_row (by decide), hI_row (by decide), e1 _ _ (by omega)]
          rw [f1, f2, f2]
          refine p_mlay0 (by decide) ⟨(e1 _ _ (by omega)).symm, lay_end h hi (fun r k => by rw [hR_sI, hR_sI, hR_sI, ← hS1]; rfl) (fun r k q => by rw [hI_ne (by omega), hI_ne (by omega), hI_ne (by omega), e1 _ _ (by omega)]) ⟨?_, Or.inr (Or.inl ⟨?_, ?_, ?_, ?_⟩)⟩⟩
          · rw [hI_row (by omega), hI_row (by omega), hI_row (by omega), hI_row (by decide), hI_row (by decide), hI_self, ← hS1, hI_ne (by omega), hI_ne (by omega), hI_self]
          · rw [hI_row (by decide), hI_row (by decide), hI_self]; rfl
          · rw [hI_row (by omega), hI_row (by omega), hI_row (by omega), hI_row (by decide), hI_self, ← hS1, hI_ne (by omega), hI_self]
          · rw [hI_row (by decide), hI_self]; exact hn.2.2.2.2.1.kind hj
          · rw [hI_self, hI_row (by decide), hI_self, hI_row (by omega), hI_row (by omega), hI_row (by omega), ← hS1, hI_self]
        · rw [hasF hn.2.1 hx, if_pos rfl]
          unfold wpX8_lay BX8_lay_41
          dsimp only
          rw [p_mSlot, slE, bI_t c, if_neg (by decide), p_in, shE, ks, if_neg (by decide), if_pos (by decide), p_isOne hs hl, oneF hn.2.2.1 h14 hx, if_pos rfl]
          exact ⟨rfl, h⟩
      have t1 : ¬ nI s = 1 := fun q => s1 ((nI_eq (b := 1) (by omega) (by decide)).mp q)
      rw [if_neg t1]
      by_cases s2 : s = 2
      · subst s2
        rw [if_pos (by decide), p_isSheet]
        by_cases d : 0 ≤ a3 ∧ a3 < 4
        · obtain ⟨t, ht, rfl⟩ := ge_of (n := 4) (by decide) d
          obtain ⟨⟨b1, b2⟩, ⟨l, l1, l2, l3⟩, b3⟩ := hr t ht
          rw [bI_t d, if_neg (by decide), if_pos (by decide), sh0_6 hs, dn_e, ln41 hl, al_e ht (by decide), (rw_o hs ht).1, dn_e, p_isMissing, b1]
          by_cases d1 : hI S 82 t = -1
          · rw [bI_t d1, if_neg (by decide)]
            unfold wpX8_lay BX8_lay_29 BX8_lay_44
            dsimp only
            rw [p_mSlot, slE, bI_t c, if_neg (by decide), p_in, shE, ks, if_neg (by decide), if_neg (by decide), if_pos (by decide), p_mSheet, shE, bI_t d, if_neg (by decide), if_pos (by decide), sh68_24 hs, dn_e, ln82 hl, al_e ht (by decide), d1, if_neg (by decide)]
            exact ⟨rfl, h⟩
          have p0 : 0 ≤ hI S 82 t := by
            rcases b2 with e | e | e
            · exact absurd e d1
            · rw [e]; decide
            · rw [e]; decide
          rw [bI_f d1, if_pos rfl]
          simp only [hR_sI, sh0_7 hs, sh0_6 hs, dn_e, lt_e, ln42 hl, ln41 hl, al_e (i := i) (n := 5) hi (by decide), (sl_o hs hi).1, (sl_o hs hi).2.1, al_e (i := t) (n := 4) ht (by decide), (rw_o hs ht).1]
          rw [if_neg (by decide), if_pos (by decide), q1]
          refine p_rowBecome (hs.sI _ _ _) hl hi ht (fun S1 f1 => ?_)
          have hs1 : SH S1 := f1.sh (((hs.sI _ _ _).sI _ _ _).sI _ _ _)
          have e1 : ∀ r k, r ≠ 53 + 3 * i → r ≠ 54 + 3 * i → r ≠ 55 + 3 * i → hI S1 r k = hI S r k := fun r k u1 u2 u3 => by rw [f1.o u3, hI_row u2, hI_row u2, hI_row u1]
          unfold wpX8_lay BX8_lay_29 BX8_lay_44 BX8_lay_61 BX8_lay_110 BX8_lay_130
          dsimp only
          rw [p_mSlot, slE, bI_t c, if_neg (by decide), p_in, shE, ks, if_neg (by decide), if_neg (by decide), if_pos (by decide), p_mSheet, shE, bI_t d, if_neg (by decide), if_pos (by decide), sh68_24 hs1, dn_e, ln82 hl, al_e ht (by decide), e1 82 t (by omega) (by omega) (by omega), if_pos p0, sh68_27 hs1, dn_e, ln85 hl, al_e hi (by decide), dn_e, ln85 hl, as_e hi (by decide), sh68_28 (hs1.sI _ _ _), dn_e, if_neg (by decide), if_pos (by decide), sh68_25 (hs1.sI _ _ _), dn_e, ln83 hl, al_e ht (by decide), ln86 hl, as_e hi (by decide), sh68_29 ((hs1.sI _ _ _).sI _ _ _), dn_e, if_neg (by decide), ln87 hl, as_e hi (by decide)]
          rw [hI_row (show 83 ≠ 85 by decide), e1 83 t (by omega) (by omega) (by omega), l3]
          refine p_mlay2 (((hs1.sI _ _ _).sI _ _ _).sI _ _ _) hl hi ht (fun S4 f4 => ⟨(e1 _ _ (by omega) (by omega) (by omega)).symm, lay_end h hi (fun r k => by rw [f4.2, hR_sI, hR_sI, hR_sI, f1.2]; rfl) (fun r k q => ?_) ⟨?_, Or.inr (Or.inr (Or.inl ⟨?_, ⟨l, l1, ?_, ?_⟩, fun j hj => ?_⟩))⟩⟩)
          · by_cases e8 : r = 88
            · rw [f4.x (by omega), hI_ne (by omega), hI_ne (by omega), hI_ne (by omega), e1 _ _ (by omega) (by omega) (by omega)]
            · rw [f4.o e8, hI_ne (by omega), hI_ne (by omega), hI_ne (by omega), e1 _ _ (by omega) (by omega) (by omega)]
          · rw [f4.o (by omega), f4.o (by decide), hI_row (by omega), hI_row (by omega), hI_row (by omega), hI_row (by decide), hI_row (by decide), hI_self, f1.o (by omega), hI_row (by omega), hI_row (by omega), hI_self]
          · rw [f4.o (by decide), hI_row (by decide), hI_row (by decide), hI_self]; rfl
          · rw [f4.o (by omega), hI_row (by omega), hI_row (by omega), hI_row (by omega), f1.o (by omega), hI_self, hI_row (by omega)]; exact l2
          · rw [f4.o (by decide), hI_row (by decide), hI_self]
          · rw [f4.o (by omega), hI_row (by omega), hI_row (by omega), hI_row (by omega), f1.i (by omega) hj, f4.i (by omega) (by omega), hI_row (by omega), hI_row (by decide), hI_row (by decide), hI_row (by decide), e1 _ _ (by omega) (by omega) (by omega), (b3 j hj).1, show 24 * i + j - 24 * i = j by omega]
        · rw [bI_f d, if_pos rfl]
          unfold wpX8_lay BX8_lay_29 BX8_lay_41
          dsimp only
          rw [p_mSlot, slE, bI_t c, if_neg (by decide), p_in, shE, ks, if_neg (by decide), if_neg (by decide), if_pos (by decide), p_mSheet, shE, bI_f d, if_pos rfl]
          exact ⟨rfl, h⟩
      have t2 : ¬ nI s = 2 := fun q => s2 ((nI_eq (b := 2) (by omega) (by decide)).mp q)
      rw [if_neg t2, if_neg t2]
      simp only [hR_sI, sh0_7 hs, dn_e, lt_e, ln42 hl, al_e (i := i) (n := 5) hi (by decide), (sl_o hs hi).1]
      rw [if_neg t1, if_neg t2, q1]
      generalize hS1 : sI (sI S (53 + 3 * i) 0 (nI s)) (53 + 3 * i) 3 a3 = S1
      have hs1 : SH S1 := by rw [← hS1]; exact hs
      have e1 : ∀ r k, r ≠ 53 + 3 * i → hI S1 r k = hI S r k := fun r k q => by rw [← hS1, hI_row q, hI_row q]
      unfold wpX8_lay BX8_lay_29 BX8_lay_44 BX8_lay_61 BX8_lay_110 BX8_lay_130
      dsimp only
      rw [p_mSlot, slE, bI_t c, if_neg (by decide), p_in, shE, ks, if_neg (by decide), if_neg t1, if_neg t2, if_neg t2, sh68_27 hs1, dn_e, ln85 hl, al_e hi (by decide), dn_e, ln85 hl, as_e hi (by decide), sh68_28 (hs1.sI _ _ _), dn_e, if_neg t1, if_neg t2, ln86 hl, as_e hi (by decide), sh68_29 ((hs1.sI _ _ _).sI _ _ _), dn_e, if_neg t1, ln87 hl, as_e hi (by decide)]
      refine p_mlay0 t2 ⟨(e1 _ _ (by omega)).symm, lay_end h hi (fun r k => by rw [hR_sI, hR_sI, hR_sI, ← hS1]; rfl) (fun r k q => by rw [hI_ne (by omega), hI_ne (by omega), hI_ne (by omega), e1 _ _ (by omega)]) ?_⟩
      have r0 : hI (sI (sI (sI S1 85 i (nI s)) 86 i a3) 87 i 0) 85 i = nI s := by rw [hI_row (by decide), hI_row (by decide), hI_self]
      rw [r0]
      refine ⟨?_, ?_⟩
      · rw [hI_row (by omega), hI_row (by omega), hI_row (by omega), ← hS1, hI_ne (by omega), hI_self]
      · rcases (show s = 0 ∨ s = 3 by omega) with rfl | rfl
        · exact Or.inl rfl
        · refine Or.inr (Or.inr (Or.inr ⟨rfl, ?_⟩))
          rw [hI_row (by omega), hI_row (by omega), hI_row (by omega), hI_row (by decide), hI_self, ← hS1, hI_self]
    · rw [if_neg c2]; exact no (fun q => c2 (by have := q.2; simp only [i_le, i_lt] at *; have : (4 : Int32).toInt = 4 := rfl; have : (3 : Int32).toInt = 3 := rfl; omega))
  · rw [bI_f c, if_pos rfl]
    unfold wpX8_lay BX8_lay_41
    dsimp only
    rw [p_mSlot, slE, bI_f c, if_pos rfl]
    exact ⟨rfl, h⟩
