/-! steps: what a text says of itself; which one counts -/
def lastL (ks : Nat → Nat) (key : Nat) : Nat → Int32
  | 0 => -1
  | m + 1 => if ks m = key then nI m else lastL ks key m
theorem lastL_ok (ks : Nat → Nat) (key : Nat) : ∀ m, (lastL ks key m = -1) ∨ ∃ t, t < m ∧ ks t = key ∧ lastL ks key m = nI t := by
  intro m
  induction m with
  | zero => exact Or.inl rfl
  | succ m ih =>
    rw [lastL]
    by_cases e : ks m = key
    · rw [if_pos e]; exact Or.inr ⟨m, by omega, e, rfl⟩
    · rw [if_neg e]
      rcases ih with q | ⟨t, q1, q2, q3⟩
      · exact Or.inl q
      · exact Or.inr ⟨t, by omega, q2, q3⟩
/-- the key of the t-th text, by the reference's cells -/
def ksM (S : HC) (a t : Nat) : Nat := (hI S a (89 + 2 * t)).toInt.toNat / 1000
theorem LAW.ks {ln : Nat → Nat} {N : Nat} {S : HC} {q a t key c : Nat} (h : LAW ln N S q a t key c) : ksM S a t = key := by
  have hc := h.2.2.1.2.2
  have hk := h.2.2.2.1.1
  unfold ksM
  rw [h.2.2.2.2.1, nI_toInt (by omega)]
  omega
theorem sub1 (m : Nat) : nI (m + 1) - 1 = nI m := by
  rw [show (1 : Int32) = nI 1 from rfl, pk_sub (by omega), Nat.add_sub_cancel]
theorem addm1 (x : Int32) : x + (-1) = x - 1 := (Int32.sub_eq_add_neg x 1).symm
theorem z1n : nI 0 - 1 < 0 := by decide
theorem p_lastLaw {ln : Nat → Nat} {N : Nat} {S : HC} {b a m key : Nat} {post : Int32 → HC → Prop} (hs : SH S) (hl : LN ln) (hb : LB b) (hk : key < 3) (hm : m ≤ 14) (h11 : hI S b 11 = nI m) (hw : ∀ t, t < m → ∃ q key c, hR S (b + 7) t = some q ∧ LAW ln N S q a t key c) (h : post (lastL (ksM S a) key m) S) : wpX0_lastLaw ln S b (nI key) post := by
  have kk : ∀ i, i ≤ m → post (lastL (ksM S a) key i) S → LX0_lastLaw_12 ln post (i + 1) S b (nI key) (nI i - 1) := by
    intro i
    induction i with
    | zero =>
      intro hi hp
      rw [LX0_lastLaw_12]
      dsimp only
      rw [if_pos z1n]
      rw [lastL] at hp
      exact hp
    | succ i ih =>
      intro hi hp
      obtain ⟨q, key2, c, q1, q2⟩ := hw i (by omega)
      have hk2 := q2.2.2.2.1.1
      rw [LX0_lastLaw_12]
      dsimp only
      unfold BX0_lastLaw_40
      rw [sub1, if_neg (nI_pos (by omega)), lb_l hs hb, dn_e, lb_n7 hl hb, al_e (by omega) (by decide), q1, cO_s, dn_e, lb_n7 hl hb, al_e (by omega) (by decide), q1, dn_e, lt_e, lt_e, q2.2.2.2.1.2, addm1]
      rw [lastL, q2.ks] at hp
      by_cases e : key2 = key
      · rw [if_pos e] at hp
        rw [if_pos (by rw [e])]
        exact hp
      · rw [if_neg e] at hp
        rw [if_neg (fun u => e ((nI_eq (by omega) (by omega)).mp u))]
        exact ih (by omega) hp
  unfold wpX0_lastLaw
  rw [lt_e, h11, if_neg (show ¬ (14 : Int32) < nI m from nI_nlt (a := 14) hm (by omega)), lt_e, lt_e]
  exact ⟨m + 1, kk m (Nat.le_refl _) h⟩
theorem p_counts {ln : Nat → Nat} {N : Nat} {S : HC} {b m key : Nat} {post : Int32 → HC → Prop} (hs : SH S) (hl : LN ln) (hk : key < 3) (hm : m ≤ 14) (h4 : hI S 69 4 = nI m) (hw : ∀ t, t < m → ∃ q key c, hR S (b + 7) t = some q ∧ LAW ln N S q 69 t key c) (h : post (lastL (ksM S 69) key m) S) : wpX8_counts ln S 68 (nI key) post := by
  have kk : ∀ i, i ≤ m → post (lastL (ksM S 69) key i) S → LX8_counts_9 ln post (i + 1) S 68 (nI key) (nI i - 1) := by
    intro i
    induction i with
    | zero =>
      intro hi hp
      rw [LX8_counts_9]
      dsimp only
      rw [if_pos z1n]
      rw [lastL] at hp
      exact hp
    | succ i ih =>
      intro hi hp
      obtain ⟨q, key2, c, q1, q2⟩ := hw i (by omega)
      have hk2 := q2.2.2.2.1.1
      have hc := q2.2.2.1.2.2
      rw [LX8_counts_9]
      dsimp only
      rw [sub1, if_neg (nI_pos (by omega)), sh68_0 hs, dn_e]
      simp only [lt_e]
      rw [show (2 : Int32) * nI i = nI (2 * i) from pk_mul 2 i, show (89 : Int32) + nI (2 * i) = nI (89 + 2 * i) from nI_add 89 (2 * i), ln69 hl, al_e (by omega) (by decide), ne_e (by decide), q2.2.2.2.2.1, show nI (1000 * key2 + c) / (1000 : Int32) = nI ((1000 * key2 + c) / 1000) from pk_div (d := 1000) (by omega) (by decide) (by decide), show (1000 * key2 + c) / 1000 = key2 by omega, addm1]
      rw [lastL, q2.ks] at hp
      by_cases e : key2 = key
      · rw [if_pos e] at hp
        rw [if_pos (by rw [e])]
        exact hp
      · rw [if_neg e] at hp
        rw [if_neg (fun u => e ((nI_eq (by omega) (by omega)).mp u))]
        exact ih (by omega) hp
  unfold wpX8_counts
  rw [sh68_0 hs, dn_e, ln69 hl, al_l4 (by decide) (by decide), h4, lt_e]
  exact ⟨m + 1, kk m (Nat.le_refl _) h⟩
theorem s_why {N : Nat} {ln : Nat → Nat} {S : HC} (h : PI N ln S) (a1 : Int32) : wpX7_why ln S 0 a1 fun v S => wpX8_why ln S 68 a1 fun w S => OK N ln v w S := by
  obtain ⟨⟨hs, hl, -, -⟩, ⟨-, m, m1, m2, m3, m4⟩, -⟩ := id h
  unfold wpX7_why BX7_why_9
  by_cases c : 0 ≤ a1 ∧ a1 < 3
  · obtain ⟨key, hk, rfl⟩ := ge_of (n := 3) (by decide) c
    rw [if_neg (nI_pos (by omega)), if_pos c.2, sh0_0 hs, dn_e]
    refine p_lastLaw hs hl (Or.inl rfl) hk m1 m2 m4 ?_
    have mm : ∀ v, (if 0 ≤ lastL (ksM S 69) key m then v = lastL (ksM S 69) key m else v = -1000000005) → wpX8_why ln S 68 (nI key) fun w S => OK N ln v w S := fun v hv => by
      unfold wpX8_why
      rw [p_in, bI_t ⟨c.1, show nI key ≤ 2 from nI_le (b := 2) (by omega) (by decide)⟩, if_neg (by decide)]
      refine p_counts hs hl hk m1 m3 m4 ?_
      by_cases e : 0 ≤ lastL (ksM S 69) key m
      · rw [if_pos e] at hv ⊢; exact ⟨hv, h⟩
      · rw [if_neg e] at hv ⊢; exact ⟨hv, h⟩
    by_cases e : 0 ≤ lastL (ksM S 69) key m
    · rw [if_pos e]; exact mm _ (by rw [if_pos e])
    · rw [if_neg e]; exact mm _ (by rw [if_neg e])
  · have nn : wpX8_why ln S 68 a1 fun w S => OK N ln (-1000000001) w S := by
      unfold wpX8_why
      rw [p_in, bI_f (fun q => c ⟨q.1, Int32.lt_of_le_of_lt q.2 (by decide)⟩), if_pos rfl]
      exact ⟨rfl, h⟩
    by_cases e : a1 < 0
    · rw [if_pos e]; exact nn
    · rw [if_neg e, if_neg (fun q => c ⟨Int32.not_lt.mp e, q⟩)]; exact nn
theorem s_textTold {N : Nat} {ln : Nat → Nat} {S : HC} (h : PI N ln S) (a1 a2 : Int32) : wpX7_textTold ln S 0 a1 a2 fun v S => wpX8_textTold ln S 68 a1 a2 fun w S => OK N ln v w S := by
  obtain ⟨⟨hs, hl, -, -⟩, ⟨-, m, m1, m2, m3, m4⟩, -⟩ := id h
  unfold wpX7_textTold BX7_textTold_30
  have em : ∀ x : Int32, bI (0 ≤ x ∧ x ≤ nI m - 1) = bI (0 ≤ x ∧ x < nI m) := fun x => plE (by omega)
  have o1 : ∀ x : Int32, bI (0 ≤ x ∧ x ≤ 1) = bI (0 ≤ x ∧ x < 2) := fun x => rngE (n := 2) rfl 2 rfl
  have no : ¬ ((0 ≤ a1 ∧ a1 < nI m) ∧ (0 ≤ a2 ∧ a2 < 2)) → wpX8_textTold ln S 68 a1 a2 fun w S => OK N ln (-1000000001) w S := fun q => by
    unfold wpX8_textTold BX8_textTold_25
    rw [sh68_0 hs, dn_e, ln69 hl, al_l4 (by decide) (by decide), m3, lt_e, p_in, em]
    by_cases e : 0 ≤ a1 ∧ a1 < nI m
    · rw [bI_t e, if_neg (by decide), p_in, o1, bI_f (fun u => q ⟨e, u⟩), if_pos rfl]
      exact ⟨rfl, h⟩
    · rw [bI_f e, if_pos rfl]
      exact ⟨rfl, h⟩
  by_cases c1 : a1 < 0
  · rw [if_pos c1]; exact no (fun q => absurd c1 (Int32.not_lt.mpr q.1.1))
  rw [if_neg c1, sh0_0 hs, dn_e, lt_e, m2]
  by_cases c2 : nI m ≤ a1
  · rw [if_pos c2]; exact no (fun q => absurd c2 (Int32.not_le.mpr q.1.2))
  have c3 : 0 ≤ a1 ∧ a1 < nI m := ⟨Int32.not_lt.mp c1, Int32.not_le.mp c2⟩
  obtain ⟨t, ht, rfl⟩ := ge_of (n := m) (by omega) c3
  rw [if_neg c2, if_neg (show ¬ (14 : Int32) ≤ nI t from nI_ge (b := 14) (by omega) (by decide))]
  by_cases c4 : a2 < 0
  · rw [if_pos c4]; exact no (fun q => absurd c4 (Int32.not_lt.mpr q.2.1))
  rw [if_neg c4]
  by_cases c5 : a2 ≤ 1
  · obtain ⟨q, key, c, q1, q2⟩ := m4 t ht
    have hk2 := q2.2.2.2.1.1
    have hc := q2.2.2.1.2.2
    obtain ⟨s, hs2, rfl⟩ := nI_of2 (n := 1) (M := 1) (x := a2) rfl c4 c5
    rw [if_pos c5, dn_e, sh1_10 hs, dn_e, ln8 hl, al_e (by omega) (by decide), show hR S 8 t = some q from q1, cO_s, lt_e, lt_e]
    have b1 : bI (0 ≤ nI s ∧ nI s ≤ 1) = 1 := bI_t ⟨nI_pos' (by omega), c5⟩
    rcases (show s = 0 ∨ s = 1 by omega) with rfl | rfl
    · rw [if_pos (by decide), q2.2.2.2.1.2]
      unfold wpX8_textTold
      dsimp only
      rw [sh68_0 hs, dn_e, ln69 hl, al_l4 (by decide) (by decide), m3, lt_e, p_in, em, bI_t c3, if_neg (by decide), p_in, b1, if_neg (by decide), if_pos (by decide), sh68_0 hs, dn_e]
      simp only [lt_e]
      rw [show (2 : Int32) * nI t = nI (2 * t) from pk_mul 2 t, show (89 : Int32) + nI (2 * t) = nI (89 + 2 * t) from nI_add 89 (2 * t), ln69 hl, al_e (by omega) (by decide), ne_e (by decide), q2.2.2.2.2.1, show nI (1000 * key + c) / (1000 : Int32) = nI ((1000 * key + c) / 1000) from pk_div (d := 1000) (by omega) (by decide) (by decide), show (1000 * key + c) / 1000 = key by omega]
      exact ⟨rfl, h⟩
    · rw [if_neg (by decide)]
      unfold wpX8_textTold
      dsimp only
      rw [sh68_0 hs, dn_e, ln69 hl, al_l4 (by decide) (by decide), m3, lt_e, p_in, em, bI_t c3, if_neg (by decide), p_in, b1, if_neg (by decide), if_neg (by decide), sh68_0 hs, dn_e]
      simp only [lt_e]
      rw [show (2 : Int32) * nI t = nI (2 * t) from pk_mul 2 t, show (89 : Int32) + nI (2 * t) = nI (89 + 2 * t) from nI_add 89 (2 * t), nI_1, ln69 hl, al_e (by omega) (by decide), show 89 + 2 * t + 1 = 90 + 2 * t by omega, q2.2.2.2.2.2.1]
      exact ⟨rfl, h⟩
  · rw [if_neg c5]; exact no (fun q => c5 (by have := q.2.2; simp only [i_le, i_lt] at *; have : (2 : Int32).toInt = 2 := rfl; have : (1 : Int32).toInt = 1 := rfl; omega))
