/-! helpers of both sides, as equations -/
theorem rb_b (p : Prop) [Decidable p] (K : Prop) : rb_ .boolean (bI p) K = K := by by_cases h : p <;> simp [bI, h, rb_e0, rb_e1]
theorem p_isKind {ln : Nat → Nat} {S : HC} {x : Int32} {post : Int32 → HC → Prop} : wpX7_isKind ln S x post = post (bI (0 ≤ x ∧ x < 6)) S := by
  unfold wpX7_isKind BX7_isKind_14
  rw [rb_e0, rb_e1]
  by_cases h1 : x < 0
  · rw [if_pos h1, bI_f (fun q => absurd h1 (Int32.not_lt.mpr q.1))]
  · rw [if_neg h1]
    by_cases h2 : (6 : Int32) ≤ x
    · rw [if_pos h2, bI_f (fun q => absurd h2 (Int32.not_le.mpr q.2))]
    · rw [if_neg h2, bI_t ⟨Int32.not_lt.mp h1, Int32.not_le.mp h2⟩]
theorem p_isCharge {ln : Nat → Nat} {S : HC} {x : Int32} {post : Int32 → HC → Prop} : wpX7_isCharge ln S x post = post (bI (0 ≤ x ∧ x < 8)) S := by
  unfold wpX7_isCharge BX7_isCharge_14
  rw [rb_e0, rb_e1]
  by_cases h1 : x < 0
  · rw [if_pos h1, bI_f (fun q => absurd h1 (Int32.not_lt.mpr q.1))]
  · rw [if_neg h1]
    by_cases h2 : (8 : Int32) ≤ x
    · rw [if_pos h2, bI_f (fun q => absurd h2 (Int32.not_le.mpr q.2))]
    · rw [if_neg h2, bI_t ⟨Int32.not_lt.mp h1, Int32.not_le.mp h2⟩]
theorem p_isSheet {ln : Nat → Nat} {S : HC} {x : Int32} {post : Int32 → HC → Prop} : wpX7_isSheet ln S x post = post (bI (0 ≤ x ∧ x < 4)) S := by
  unfold wpX7_isSheet BX7_isSheet_13
  rw [rb_e0, rb_e1]
  by_cases h1 : x < 0
  · rw [if_pos h1, bI_f (fun q => absurd h1 (Int32.not_lt.mpr q.1))]
  · rw [if_neg h1]
    by_cases h2 : (4 : Int32) ≤ x
    · rw [if_pos h2, bI_f (fun q => absurd h2 (Int32.not_le.mpr q.2))]
    · rw [if_neg h2, bI_t ⟨Int32.not_lt.mp h1, Int32.not_le.mp h2⟩]
theorem p_isSlot {ln : Nat → Nat} {S : HC} {x : Int32} {post : Int32 → HC → Prop} : wpX7_isSlot ln S x post = post (bI (0 ≤ x ∧ x < 5)) S := by
  unfold wpX7_isSlot BX7_isSlot_13
  rw [rb_e0, rb_e1]
  by_cases h1 : x < 0
  · rw [if_pos h1, bI_f (fun q => absurd h1 (Int32.not_lt.mpr q.1))]
  · rw [if_neg h1]
    by_cases h2 : (5 : Int32) ≤ x
    · rw [if_pos h2, bI_f (fun q => absurd h2 (Int32.not_le.mpr q.2))]
    · rw [if_neg h2, bI_t ⟨Int32.not_lt.mp h1, Int32.not_le.mp h2⟩]
theorem p_has {ln : Nat → Nat} {S : HC} {b : Nat} {x : Int32} {post : Int32 → HC → Prop} : wpX0_has ln S b x post = post (bI (0 ≤ x ∧ x < hI S b 6 ∧ x < 14)) S := by
  unfold wpX0_has BX0_has_22
  rw [rb_e0, rb_e1, lt_e]
  by_cases h1 : x < 0
  · rw [if_pos h1, bI_f (fun q => absurd h1 (Int32.not_lt.mpr q.1))]
  · rw [if_neg h1]
    by_cases h2 : hI S b 6 ≤ x
    · rw [if_pos h2, bI_f (fun q => absurd h2 (Int32.not_le.mpr q.2.1))]
    · rw [if_neg h2]
      by_cases h3 : (14 : Int32) ≤ x
      · rw [if_pos h3, bI_f (fun q => absurd h3 (Int32.not_le.mpr q.2.2))]
      · rw [if_neg h3, bI_t ⟨Int32.not_lt.mp h1, Int32.not_le.mp h2, Int32.not_le.mp h3⟩]
theorem hasT {S : HC} {b n j : Nat} (hn : hI S b 6 = nI n) (h14 : n ≤ 14) (hj : j < n) : bI (0 ≤ nI j ∧ nI j < hI S b 6 ∧ nI j < 14) = 1 := bI_t ⟨nI_pos' (by omega), by rw [hn]; exact nI_lt hj (by omega), nI_lt (b := 14) (by omega) (by decide)⟩
theorem hasF {S : HC} {b n : Nat} {x : Int32} (hn : hI S b 6 = nI n) (hx : x < 0 ∨ nI n ≤ x) : bI (0 ≤ x ∧ x < hI S b 6 ∧ x < 14) = 0 := bI_f (fun q => by
  rcases hx with h | h
  · exact absurd h (Int32.not_lt.mpr q.1)
  · rw [hn] at q
    exact absurd h (Int32.not_le.mpr q.2.1))
theorem p_hasRoom {ln : Nat → Nat} {S : HC} {b n : Nat} {post : Int32 → HC → Prop} (hn : hI S b 6 = nI n) (h14 : n ≤ 14) : wpX0_hasRoom ln S b post = post (bI (n < 14)) S := by
  unfold wpX0_hasRoom BX0_hasRoom_20
  simp only [rb_e0, rb_e1, lt_e, hn]
  rw [if_neg (nI_pos (by omega))]
  by_cases h : n < 14
  · rw [if_neg (show ¬ (14 : Int32) ≤ nI n from nI_ge (a := n) (b := 14) h (by decide)), bI_t h]
  · rw [if_pos (show (14 : Int32) ≤ nI n from nI_le (a := 14) (b := n) (by omega) (by omega)), bI_f h]
theorem p_in {ln : Nat → Nat} {S : HC} {x a c : Int32} {post : Int32 → HC → Prop} : wpX8_in ln S x a c post = post (bI (a ≤ x ∧ x ≤ c)) S := by
  unfold wpX8_in BX8_in_14
  rw [rb_e0, rb_e1]
  by_cases h1 : x < a
  · rw [if_pos h1, bI_f (fun q => absurd h1 (Int32.not_lt.mpr q.1))]
  · rw [if_neg h1]
    by_cases h2 : c < x
    · rw [if_pos h2, bI_f (fun q => absurd h2 (Int32.not_lt.mpr q.2))]
    · rw [if_neg h2, bI_t ⟨Int32.not_lt.mp h1, Int32.not_lt.mp h2⟩]
theorem p_mCharge {ln : Nat → Nat} {S : HC} {x : Int32} {post : Int32 → HC → Prop} : wpX8_isCharge ln S x post = post (bI (0 ≤ x ∧ x ≤ 7)) S := by
  unfold wpX8_isCharge
  rw [p_in, rb_b]
theorem p_mSheet {ln : Nat → Nat} {S : HC} {x : Int32} {post : Int32 → HC → Prop} : wpX8_isSheet ln S x post = post (bI (0 ≤ x ∧ x ≤ 3)) S := by
  unfold wpX8_isSheet
  rw [p_in, rb_b]
theorem p_mSlot {ln : Nat → Nat} {S : HC} {x : Int32} {post : Int32 → HC → Prop} : wpX8_isSlot ln S x post = post (bI (0 ≤ x ∧ x ≤ 4)) S := by
  unfold wpX8_isSlot
  rw [p_in, rb_b]
theorem p_isOne {ln : Nat → Nat} {S : HC} {x : Int32} {post : Int32 → HC → Prop} (hs : SH S) (hl : LN ln) : wpX8_isOne ln S 68 x post = post (bI (0 ≤ x ∧ x ≤ hI S 69 1 - 1)) S := by
  unfold wpX8_isOne
  rw [sh68_0 hs, dn_e, ln69 hl, show (1 : Int32) = nI 1 from rfl, al_e (by decide) (by decide)]
  simp only [lt_e]
  rw [p_in, rb_b]
theorem oneT {S : HC} {n j : Nat} (hn : hI S 69 1 = nI n) (h14 : n ≤ 14) (hj : j < n) : bI (0 ≤ nI j ∧ nI j ≤ hI S 69 1 - 1) = 1 := bI_t ⟨nI_pos' (by omega), by rw [hn, show (1 : Int32) = nI 1 from rfl, pk_sub (by omega)]; exact nI_le (by omega) (by omega)⟩
theorem oneF {S : HC} {n : Nat} {x : Int32} (hn : hI S 69 1 = nI n) (h14 : n ≤ 14) (hx : x < 0 ∨ nI n ≤ x) : bI (0 ≤ x ∧ x ≤ hI S 69 1 - 1) = 0 := bI_f (fun q => by
  rcases hx with h | h
  · exact absurd h (Int32.not_lt.mpr q.1)
  · rw [hn] at q
    have q2 := q.2
    rw [i_le] at q2 h
    rw [nI_toInt (by omega)] at h
    have e : (nI n - 1).toInt = (n : Int) - 1 := pk_sub_toInt (a := n) (b := 1) (by omega) (by decide)
    omega)
/-- the same numbers below n on both sides -/
theorem rngE {x : Int32} {a : Int32} {n : Nat} (ha : a.toInt + 1 = n) (b : Int32) (hb : b.toInt = n) : bI (0 ≤ x ∧ x ≤ a) = bI (0 ≤ x ∧ x < b) := by
  have : (0 ≤ x ∧ x ≤ a) ↔ (0 ≤ x ∧ x < b) := by
    simp only [i_le, i_lt]
    omega
  simp only [bI, this]
theorem p_of {ln : Nat → Nat} {S : HC} {j k : Nat} {post : Int32 → HC → Prop} (hs : SH S) (hl : LN ln) (hj : j < 200) (hk : k < 6) : wpX8_of ln S 68 (nI j) (nI k) post = post (mf S 69 k j) S := by
  unfold wpX8_of
  rw [sh68_0 hs, dn_e]
  simp only [lt_e]
  rw [show (6 : Int32) * nI j = nI (6 * j) from pk_mul 6 j, show (5 : Int32) + nI (6 * j) = nI (5 + 6 * j) from nI_add 5 (6 * j), nI_add, ln69 hl, al_e (by omega) (by decide)]
  rfl
theorem p_of0 {ln : Nat → Nat} {S : HC} {j : Nat} {post : Int32 → HC → Prop} (hs : SH S) (hl : LN ln) (hj : j < 200) : wpX8_of ln S 68 (nI j) 0 post = post (mf S 69 0 j) S := p_of (k := 0) hs hl hj (by decide)
theorem p_of1 {ln : Nat → Nat} {S : HC} {j : Nat} {post : Int32 → HC → Prop} (hs : SH S) (hl : LN ln) (hj : j < 200) : wpX8_of ln S 68 (nI j) 1 post = post (mf S 69 1 j) S := p_of (k := 1) hs hl hj (by decide)
theorem p_of2 {ln : Nat → Nat} {S : HC} {j : Nat} {post : Int32 → HC → Prop} (hs : SH S) (hl : LN ln) (hj : j < 200) : wpX8_of ln S 68 (nI j) 2 post = post (mf S 69 2 j) S := p_of (k := 2) hs hl hj (by decide)
theorem p_of3 {ln : Nat → Nat} {S : HC} {j : Nat} {post : Int32 → HC → Prop} (hs : SH S) (hl : LN ln) (hj : j < 200) : wpX8_of ln S 68 (nI j) 3 post = post (mf S 69 3 j) S := p_of (k := 3) hs hl hj (by decide)
theorem p_of4 {ln : Nat → Nat} {S : HC} {j : Nat} {post : Int32 → HC → Prop} (hs : SH S) (hl : LN ln) (hj : j < 200) : wpX8_of ln S 68 (nI j) 4 post = post (mf S 69 4 j) S := p_of (k := 4) hs hl hj (by decide)
theorem p_of5 {ln : Nat → Nat} {S : HC} {j : Nat} {post : Int32 → HC → Prop} (hs : SH S) (hl : LN ln) (hj : j < 200) : wpX8_of ln S 68 (nI j) 5 post = post (mf S 69 5 j) S := p_of (k := 5) hs hl hj (by decide)
theorem p_becomes {ln : Nat → Nat} {S : HC} {i : Nat} {v : Int32} {post : Int32 → HC → Prop} (hs : SH S) (hl : LN ln) (hi : i < 1461) : wpX8_becomes ln S 68 (nI i) v post = post (hI S 69 i) (sI S 69 i v) := by
  unfold wpX8_becomes
  rw [sh68_0 hs]
  simp only [dn_e]
  rw [ln69 hl, al_e hi (by decide), as_e hi (by decide)]
theorem p_xwithin {ln : Nat → Nat} {S : HC} {x a c : Int32} {post : Int32 → HC → Prop} (hac : a ≤ c) : wpX7_within ln S x a c post = post (if x < a then a else if c < x then c else x) S := by
  unfold wpX7_within
  simp only [lt_e]
  congr 1
  simp only [i_lt, i_le] at *
  by_cases h1 : x.toInt < c.toInt
  · rw [if_pos h1]
    by_cases h2 : a.toInt < x.toInt
    · rw [if_pos h2, if_neg (by omega), if_neg (by omega)]
    · rw [if_neg h2]
      by_cases h3 : x.toInt < a.toInt
      · rw [if_pos h3]
      · rw [if_neg h3, if_neg (by omega)]
        exact i_eq.mpr (by omega)
  · rw [if_neg h1]
    by_cases h2 : a.toInt < c.toInt
    · rw [if_pos h2, if_neg (by omega)]
      by_cases h3 : c.toInt < x.toInt
      · rw [if_pos h3]
      · rw [if_neg h3]; exact i_eq.mpr (by omega)
    · rw [if_neg h2, if_neg (by omega)]
      by_cases h3 : c.toInt < x.toInt
      · rw [if_pos h3]; exact i_eq.mpr (by omega)
      · rw [if_neg h3]; exact i_eq.mpr (by omega)
theorem p_mwithin {ln : Nat → Nat} {S : HC} {x a c : Int32} {post : Int32 → HC → Prop} : wpX8_within ln S x a c post = post (if x < a then a else if c < x then c else x) S := by
  unfold wpX8_within
  by_cases h1 : a ≤ x
  · rw [if_pos h1, if_neg (Int32.not_lt.mpr h1)]
    by_cases h2 : x ≤ c
    · rw [if_pos h2, if_neg (Int32.not_lt.mpr h2)]
    · rw [if_neg h2, if_pos (Int32.not_le.mp h2)]
  · rw [if_neg h1, if_pos (Int32.not_le.mp h1)]
theorem p_worth {ln : Nat → Nat} {S : HC} {k f : Int32} {post : Int32 → HC → Prop} : wpX7_worthOf ln S k f post = post (wrth k f) S := by
  unfold wpX7_worthOf wrth
  simp only [lt_e]
  repeat' split
  all_goals rfl
theorem i91 (x : Int32) : (91 : Int32) - x = 99 - x - 8 := by
  apply Int32.toBitVec_inj.mp
  simp only [Int32.toBitVec_sub]
  rw [show (91 : Int32).toBitVec = (99 : Int32).toBitVec - (8 : Int32).toBitVec by decide]
  generalize x.toBitVec = a
  generalize (99 : Int32).toBitVec = c
  generalize (8 : Int32).toBitVec = d
  apply BitVec.eq_of_toInt_eq
  simp only [BitVec.toInt_sub, Int.bmod_sub_bmod, Int.sub_bmod_bmod]
  congr 1
  omega
theorem p_mworth {ln : Nat → Nat} {S : HC} {j : Nat} {post : Int32 → HC → Prop} (hs : SH S) (hl : LN ln) (hj : j < 200) : wpX8_worthOf ln S 68 (nI j) post = post (wrth (mf S 69 0 j) (mf S 69 4 j)) S := by
  unfold wpX8_worthOf wrth
  simp only [lt_e, p_of4 hs hl hj, p_of0 hs hl hj]
  repeat' split
  all_goals first | rfl | rw [i91]
theorem p_told0 {ln : Nat → Nat} {S : HC} {x : Int32} {post : Int32 → HC → Prop} : wpX8_told0 ln S x post = post (if 0 ≤ x then x else -1000000005) S := by
  unfold wpX8_told0
  split <;> rfl
def isU (k w : Int32) : Prop := w = 0 ∨ k = w ∨ (w = 1 ∧ k = 3) ∨ (w = 2 ∧ k = 4)
theorem p_isUnder {ln : Nat → Nat} {S : HC} {k w : Int32} {post : Int32 → HC → Prop} (h : isU k w → post 1 S) (h2 : ¬ isU k w → post 0 S) : wpX8_isUnder ln S k w post := by
  unfold wpX8_isUnder BX8_isUnder_19 BX8_isUnder_29 BX8_isUnder_33
  simp only [rb_e0, rb_e1]
  unfold isU at h h2
  repeat' split
  all_goals first | (apply h; simp_all; done) | (apply h2; simp_all; done) | (apply h2; omega) | skip
theorem kaLe : kaL.getD 0 0 = -1 ∧ kaL.getD 1 0 = 0 ∧ kaL.getD 2 0 = 0 ∧ kaL.getD 3 0 = 1 ∧ kaL.getD 4 0 = 2 ∧ kaL.getD 5 0 = 0 := by decide
theorem p_isOfKind0 {ln : Nat → Nat} {S : HC} {post : Int32 → HC → Prop} {w : Int32} {i n : Nat} : ∀ (m k : Nat), k < 6 → m ≤ 4 → i + 2 ≤ 6 → True → True := fun _ _ _ _ _ _ => trivial

