/-! steps: what lies in a slot; what is counted -/
theorem rem_m1 (x : Int32) : x - x / (-1) * (-1) = 0 := by
  apply i_eq.mpr
  rw [Int32.toInt_sub, Int32.toInt_mul, Int32.toInt_div]
  have e : (-1 : Int32).toInt = -1 := by decide
  have e0 : (0 : Int32).toInt = 0 := by decide
  rw [e, e0, Int.tdiv_neg, Int.tdiv_one, Int.bmod_mul_bmod, Int.sub_bmod_bmod]
  have : x.toInt - -x.toInt * -1 = 0 := by omega
  rw [this]
  rfl
theorem s_rest {N : Nat} {ln : Nat → Nat} {S : HC} (h : PI N ln S) (a1 a2 : Int32) : wpX7_rest ln S 0 a1 a2 fun v S => wpX8_rest ln S 68 a1 a2 fun w S => OK N ln v w S := by
  obtain ⟨⟨hs, hl, -, -⟩, -, -, -, -, hsl, -⟩ := id h
  unfold wpX7_rest
  rw [p_isSlot]
  by_cases c : 0 ≤ a1 ∧ a1 < 5
  · obtain ⟨i, hi, rfl⟩ := ge_of (n := 5) (by decide) c
    obtain ⟨q1, q2⟩ := hsl i hi
    rw [bI_t c, if_neg (by decide), sh0_7 hs, dn_e, ln42 hl, al_e hi (by decide), (sl_o hs hi).1, dn_e]
    simp only [lt_e, q1]
    have m0 : ∀ v, (hI S 85 i = 0 → v = -1000000011) → (hI S 85 i ≠ 0 → hI S 85 i ≠ 3 → v = -1000000012) → (hI S 85 i = 3 → a2 = 0 → v = -1000000002) → (hI S 85 i = 3 → a2 ≠ 0 → v = hI S 86 i - hI S 86 i / a2 * a2) → wpX8_rest ln S 68 (nI i) a2 fun w S => OK N ln v w S := fun v v0 v1 v2 v3 => by
      unfold wpX8_rest
      simp only [p_mSlot, slE, bI_t c, sh68_27 hs, sh68_28 hs, dn_e, ln85 hl, ln86 hl, lt_e]
      rw [if_neg (by decide), al_e hi (by decide), al_e hi (by decide), al_e hi (by decide)]
      by_cases d0 : hI S 85 i = 0
      · rw [if_pos d0]; exact ⟨v0 d0, h⟩
      rw [if_neg d0]
      by_cases d3 : hI S 85 i = 3
      · rw [if_pos d3]
        by_cases z0 : a2 = 0
        · rw [if_pos z0]; exact ⟨v2 d3 z0, h⟩
        rw [if_neg z0]
        by_cases z1 : a2 = -1
        · rw [if_pos z1]
          refine ⟨?_, h⟩
          rw [v3 d3 z0, z1, rem_m1]
        · rw [if_neg z1, ne_e z0]
          exact ⟨v3 d3 z0, h⟩
      · rw [if_neg d3]; exact ⟨v1 d0 d3, h⟩
    by_cases d0 : hI S 85 i = 0
    · rw [if_pos d0]
      exact m0 _ (fun _ => rfl) (fun q => absurd d0 q) (fun q => absurd (d0.symm.trans q) (by decide)) (fun q => absurd (d0.symm.trans q) (by decide))
    rw [if_neg d0]
    by_cases d3 : hI S 85 i = 3
    · rw [if_pos d3]
      have e3 : hI S (53 + 3 * i) 3 = hI S 86 i := by
        rcases q2 with u | u | u | u
        · exact absurd u d0
        · exact absurd (d3.symm.trans u.1) (by decide)
        · exact absurd (d3.symm.trans u.1) (by decide)
        · exact u.2
      by_cases z0 : a2 = 0
      · rw [if_pos z0]
        exact m0 _ (fun q => absurd q d0) (fun _ q => absurd d3 q) (fun _ _ => rfl) (fun _ q => absurd z0 q)
      · rw [if_neg z0, ne_e z0, e3]
        exact m0 _ (fun q => absurd q d0) (fun _ q => absurd d3 q) (fun _ q => absurd q z0) (fun _ _ => rfl)
    · rw [if_neg d3]
      exact m0 _ (fun q => absurd q d0) (fun _ _ => rfl) (fun q => absurd q d3) (fun q => absurd q d3)
  · rw [bI_f c, if_pos rfl]
    unfold wpX8_rest
    dsimp only
    rw [p_mSlot, slE, bI_f c, if_pos rfl]
    exact ⟨rfl, h⟩
theorem s_ask {N : Nat} {ln : Nat → Nat} {S : HC} (h : PI N ln S) (a1 a2 : Int32) : wpX7_ask ln S 0 a1 a2 fun v S => wpX8_ask ln S 68 a1 a2 fun w S => OK N ln v w S := by
  obtain ⟨⟨hs, hl, -, -⟩, -, -, -, -, hsl, -⟩ := id h
  unfold wpX7_ask BX7_ask_14 BX7_ask_53
  rw [p_isSlot]
  by_cases c : 0 ≤ a1 ∧ a1 < 5
  · obtain ⟨i, hi, rfl⟩ := ge_of (n := 5) (by decide) c
    obtain ⟨q1, q2⟩ := hsl i hi
    rw [bI_t c, if_neg (by decide), p_isKind]
    by_cases k : 0 ≤ a2 ∧ a2 < 6
    · rw [bI_t k, if_neg (by decide), sh0_7 hs, dn_e, ln42 hl, al_e hi (by decide), (sl_o hs hi).1, dn_e]
      simp only [lt_e, q1]
      have m0 : ∀ v, (hI S 85 i = 0 → v = -1000000011) → (hI S 85 i ≠ 0 → ¬ (hI S 85 i = 1 ∧ isU (hI S 86 i) a2) → v = -1000000012) → (hI S 85 i = 1 → isU (hI S 86 i) a2 → v = hI S 87 i) → wpX8_ask ln S 68 (nI i) a2 fun w S => OK N ln v w S := fun v v0 v1 v2 => by
        unfold wpX8_ask BX8_ask_16 BX8_ask_63
        simp only [p_mSlot, slE, bI_t c, p_in, kiE, bI_t k, sh68_27 hs, sh68_28 hs, dn_e, ln85 hl, ln86 hl, lt_e]
        rw [if_neg (by decide), if_neg (by decide), al_e hi (by decide), al_e hi (by decide), al_e hi (by decide)]
        by_cases d0 : hI S 85 i = 0
        · rw [if_pos d0]; exact ⟨v0 d0, h⟩
        rw [if_neg d0]
        by_cases d1 : hI S 85 i = 1
        · rw [if_pos d1]
          refine p_isUnder (fun u => ?_) (fun u => ?_)
          · rw [if_neg (by decide), sh68_29 hs, dn_e, ln87 hl, al_e hi (by decide)]
            exact ⟨v2 d1 u, h⟩
          · rw [if_pos rfl]; exact ⟨v1 d0 (fun q => u q.2), h⟩
        · rw [if_neg d1]; exact ⟨v1 d0 (fun q => d1 q.1), h⟩
      by_cases d0 : hI S 85 i = 0
      · rw [if_pos d0]
        exact m0 _ (fun _ => rfl) (fun q => absurd d0 q) (fun q => absurd (d0.symm.trans q) (by decide))
      rw [if_neg d0]
      by_cases d1 : hI S 85 i = 1
      · rw [if_pos d1]
        obtain ⟨e1, ⟨t, ht, e2⟩, e3⟩ : hI S (53 + 3 * i) 1 = hI S 86 i ∧ (∃ c, c < 6 ∧ hI S 86 i = nI c) ∧ hI S 87 i = wrth (hI S 86 i) (hI S (53 + 3 * i) 2) := by
          rcases q2 with u | u | u | u
          · exact absurd u d0
          · exact u.2
          · exact absurd (d1.symm.trans u.1) (by decide)
          · exact absurd (d1.symm.trans u.1) (by decide)
        rw [e1, e2]
        rw [e2] at e3 m0
        refine p_isOfKind ht (fun u => ?_) (fun u => ?_)
        · rw [if_neg (by decide), e1, e2, p_worth, ← e3]
          exact m0 _ (fun q => absurd q d0) (fun _ q => absurd ⟨d1, u⟩ q) (fun _ _ => rfl)
        · rw [if_pos rfl]
          exact m0 _ (fun q => absurd q d0) (fun _ _ => rfl) (fun _ q => absurd q u)
      · rw [if_neg d1]
        exact m0 _ (fun q => absurd q d0) (fun _ _ => rfl) (fun q => absurd q d1)
    · rw [bI_f k, if_pos rfl]
      unfold wpX8_ask BX8_ask_16
      simp only [p_mSlot, slE, bI_t c, p_in, kiE, bI_f k, if_true]
      rw [if_neg (by decide)]
      exact ⟨rfl, h⟩
  · rw [bI_f c, if_pos rfl]
    unfold wpX8_ask BX8_ask_16
    dsimp only
    rw [p_mSlot, slE, bI_f c, if_pos rfl]
    exact ⟨rfl, h⟩
/-- a row: has a place, is a number there -/
theorem p_hasPlace {ln : Nat → Nat} {S : HC} {r l : Nat} {x : Int32} {post : Int32 → HC → Prop} (hl : hI S r 1 = nI l) (h24 : l ≤ 24) : wpX3_hasPlace ln S r x post = post (bI (0 ≤ x ∧ x < nI l)) S := by
  unfold wpX3_hasPlace BX3_hasPlace_22
  rw [rb_e0, rb_e1, lt_e, hl]
  by_cases h1 : x < 0
  · rw [if_pos h1, bI_f (fun q => absurd h1 (Int32.not_lt.mpr q.1))]
  rw [if_neg h1]
  by_cases h2 : nI l ≤ x
  · rw [if_pos h2, bI_f (fun q => absurd h2 (Int32.not_le.mpr q.2))]
  rw [if_neg h2, if_neg, bI_t ⟨Int32.not_lt.mp h1, Int32.not_le.mp h2⟩]
  intro q
  have h3 : nI l ≤ 24 := nI_le (b := 24) h24 (by decide)
  exact h2 (Int32.le_trans h3 q)
theorem p_isNumber {ln : Nat → Nat} {S : HC} {r q l j : Nat} {post : Int32 → HC → Prop} (hl : hI S r 1 = nI l) (h24 : l ≤ 24) (hr : hR S r 2 = some q) (hq : ln q = 24) (hj : j < 24) : wpX3_isNumber ln S r (nI j) post = post (bI (j < l ∧ ¬ hI S q j = -1000000005)) S := by
  unfold wpX3_isNumber BX3_isNumber_23
  rw [p_hasPlace hl h24]
  by_cases h1 : j < l
  · rw [bI_t ⟨nI_pos' (by omega), nI_lt h1 (by omega)⟩, if_neg (by decide), hr, dn_e, hq, al_e hj (by decide), rb_e0, rb_e1]
    by_cases h2 : hI S q j = -1000000005
    · rw [if_pos h2, bI_f (fun u => u.2 h2)]
    · rw [if_neg h2, bI_t ⟨h1, h2⟩]
  · rw [bI_f (fun u => absurd u.2 (nI_nlt (by omega) (by omega))), if_pos rfl, rb_e0, bI_f (fun u => h1 u.1)]
/-- a place of the reference's rows: below the length -/
theorem plE {x : Int32} {l : Nat} (h : l ≤ 24) : bI (0 ≤ x ∧ x ≤ nI l - 1) = bI (0 ≤ x ∧ x < nI l) := rngE (n := l) (by
  have e : (nI l - 1).toInt = (l : Int) - 1 := pk_sub_toInt (a := l) (b := 1) (by omega) (by decide)
  omega) (nI l) (nI_toInt (by omega))
theorem s_item {N : Nat} {ln : Nat → Nat} {S : HC} (h : PI N ln S) (a1 a2 : Int32) : wpX7_item ln S 0 a1 a2 fun v S => wpX8_item ln S 68 a1 a2 fun w S => OK N ln v w S := by
  obtain ⟨⟨hs, hl, -, -⟩, -, -, -, -, hsl, -⟩ := id h
  unfold wpX7_item
  rw [p_isSlot]
  by_cases c : 0 ≤ a1 ∧ a1 < 5
  · obtain ⟨i, hi, rfl⟩ := ge_of (n := 5) (by decide) c
    obtain ⟨q1, q2⟩ := hsl i hi
    rw [bI_t c, if_neg (by decide), sh0_7 hs, dn_e, ln42 hl, al_e hi (by decide), (sl_o hs hi).1, dn_e]
    simp only [lt_e, q1, (sl_o hs hi).2.1, dn_e]
    have m0 : ∀ v, (hI S 85 i = 0 → v = -1000000011) → (hI S 85 i ≠ 0 → hI S 85 i ≠ 2 → v = -1000000012) → (hI S 85 i = 2 → ∀ l, l ≤ 24 → hI S 86 i = nI l → (¬ (0 ≤ a2 ∧ a2 < nI l) → v = -1000000013) ∧ ∀ j, j < l → a2 = nI j → v = if hI S 88 (24 * i + j) = -1000000005 then -1000000012 else hI S 88 (24 * i + j)) → wpX8_item ln S 68 (nI i) a2 fun w S => OK N ln v w S := fun v v0 v1 v2 => by
      unfold wpX8_item
      simp only [p_mSlot, slE, bI_t c, sh68_27 hs, sh68_28 hs, dn_e, ln85 hl, ln86 hl, lt_e, p_in]
      rw [if_neg (by decide), al_e hi (by decide), al_e hi (by decide), al_e hi (by decide)]
      by_cases d0 : hI S 85 i = 0
      · rw [if_pos d0]; exact ⟨v0 d0, h⟩
      rw [if_neg d0]
      by_cases d3 : hI S 85 i = 2
      · rw [if_pos d3]
        obtain ⟨⟨l, l1, l2, l3⟩, l4⟩ : (∃ l, l ≤ 24 ∧ hI S (54 + 3 * i) 1 = nI l ∧ hI S 86 i = nI l) ∧ ∀ j, j < 24 → hI S (55 + 3 * i) j = hI S 88 (24 * i + j) := by
          rcases q2 with u | u | u | u
          · exact absurd u d0
          · exact absurd (d3.symm.trans u.1) (by decide)
          · exact u.2
          · exact absurd (d3.symm.trans u.1) (by decide)
        obtain ⟨w1, w2⟩ := v2 d3 l l1 l3
        rw [l3, plE l1]
        by_cases e : 0 ≤ a2 ∧ a2 < nI l
        · obtain ⟨j, hj, rfl⟩ := ge_of (n := l) (by omega) e
          rw [bI_t e, if_neg (by decide), sh68_30 hs, dn_e, show (24 : Int32) * nI i = nI (24 * i) from pk_mul 24 i, nI_add, ln88 hl, al_e (by omega) (by decide)]
          have w3 := w2 j hj rfl
          by_cases e5 : hI S 88 (24 * i + j) = -1000000005
          · rw [if_pos e5] at w3 ⊢; exact ⟨w3, h⟩
          · rw [if_neg e5] at w3 ⊢; exact ⟨w3, h⟩
        · rw [bI_f e, if_pos rfl]; exact ⟨w1 e, h⟩
      · rw [if_neg d3]; exact ⟨v1 d0 d3, h⟩
    by_cases d0 : hI S 85 i = 0
    · rw [if_pos d0]
      exact m0 _ (fun _ => rfl) (fun q => absurd d0 q) (fun q => absurd (d0.symm.trans q) (by decide))
    rw [if_neg d0]
    by_cases d3 : hI S 85 i = 2
    · rw [if_pos d3]
      obtain ⟨⟨l, l1, l2, l3⟩, l4⟩ : (∃ l, l ≤ 24 ∧ hI S (54 + 3 * i) 1 = nI l ∧ hI S 86 i = nI l) ∧ ∀ j, j < 24 → hI S (55 + 3 * i) j = hI S 88 (24 * i + j) := by
        rcases q2 with u | u | u | u
        · exact absurd u d0
        · exact absurd (d3.symm.trans u.1) (by decide)
        · exact u.2
        · exact absurd (d3.symm.trans u.1) (by decide)
      have lu : ∀ l2, l2 ≤ 24 → hI S 86 i = nI l2 → l2 = l := fun l2 q u => (nI_eq (by omega) (by omega)).mp (u.symm.trans l3)
      rw [p_hasPlace l2 l1]
      by_cases e : 0 ≤ a2 ∧ a2 < nI l
      · obtain ⟨j, hj, rfl⟩ := ge_of (n := l) (by omega) e
        rw [bI_t e, if_neg (by decide), (sl_o hs hi).2.1, dn_e, p_isNumber l2 l1 (sl_o hs hi).2.2 (sl_n hl hi) (by omega), l4 j (by omega)]
        by_cases e5 : hI S 88 (24 * i + j) = -1000000005
        · rw [bI_f (fun u => u.2 e5), if_pos rfl]
          exact m0 _ (fun q => absurd q d0) (fun _ q => absurd d3 q) (fun _ l2 q u => ⟨fun u2 => absurd e (by rw [lu l2 q u] at u2; exact u2), fun j2 q2 u2 => by
            have ej := (nI_eq (by omega) (by omega)).mp u2
            subst ej
            rw [if_pos e5]⟩)
        · rw [bI_t ⟨hj, e5⟩, if_neg (by decide), (sl_o hs hi).2.1, dn_e, (sl_o hs hi).2.2, dn_e, sl_n hl hi, al_e (by omega) (by decide), l4 j (by omega)]
          exact m0 _ (fun q => absurd q d0) (fun _ q => absurd d3 q) (fun _ l2 q u => ⟨fun u2 => absurd e (by rw [lu l2 q u] at u2; exact u2), fun j2 q2 u2 => by
            have ej := (nI_eq (by omega) (by omega)).mp u2
            subst ej
            rw [if_neg e5]⟩)
      · rw [bI_f e, if_pos rfl]
        exact m0 _ (fun q => absurd q d0) (fun _ q => absurd d3 q) (fun _ l2 q u => ⟨fun _ => rfl, fun j q2 u2 => absurd (by rw [u2]; exact ⟨nI_pos' (by omega), nI_lt (by rw [← lu l2 q u]; exact q2) (by omega)⟩) e⟩)
    · rw [if_neg d3]
      exact m0 _ (fun q => absurd q d0) (fun _ _ => rfl) (fun q => absurd q d3)
  · rw [bI_f c, if_pos rfl]
    unfold wpX8_item
    dsimp only
    rw [p_mSlot, slE, bI_f c, if_pos rfl]
    exact ⟨rfl, h⟩
def fnd (g : Nat → Int32) : Nat → Nat
  | 0 => 0
  | n + 1 => fnd g n + (if g n = -1 then 1 else 0)
theorem fnd_le (g : Nat → Int32) : ∀ n, fnd g n ≤ n := by
  intro n
  induction n with
  | zero => exact Nat.le_refl _
  | succ n ih => rw [fnd]; split <;> omega
theorem p_founders {ln : Nat → Nat} {S : HC} {b n : Nat} {g : Nat → Int32} {post : Int32 → HC → Prop} (hs : SH S) (hl : LN ln) (hb : LB b) (hn : hI S b 6 = nI n) (h14 : n ≤ 14) (hg : ∀ j, j < n → xf S b 1 j = g j) (h : post (nI (fnd g n)) S) : wpX0_founders ln S b post := by
  have key : ∀ m i, i + m = n → LX0_founders_4 ln post (m + 1) S b (nI (fnd g i)) (nI i) := by
    intro m
    induction m with
    | zero =>
      intro i hi
      rw [LX0_founders_4]
      dsimp only
      rw [lt_e, hn, if_pos (nI_le (by omega) (by omega)), show i = n by omega]
      exact h
    | succ m ih =>
      intro i hi
      rw [LX0_founders_4]
      dsimp only
      unfold BX0_founders_25
      rw [lt_e, hn, if_neg (nI_ge (by omega) (by omega)), lb_r hs hb (i := 1) (by decide), dn_e, lb_n hl hb (i := 1) (by decide), al_e (by omega) (by decide), show hI S (b + 1 + 1) i = g i from hg i (by omega)]
      simp only [lt_e]
      rw [nI_1, nI_1]
      have k := ih (i + 1) (by omega)
      rw [fnd] at k
      by_cases e : g i = -1
      · rw [if_pos e] at k ⊢; exact k
      · rw [if_neg e] at k ⊢; exact k
  exact ⟨n + 1, key n 0 (by omega)⟩
theorem p_mfounders {ln : Nat → Nat} {S : HC} {n : Nat} {f : Nat → Nat → Int32} {post : Int32 → HC → Prop} (hs : SH S) (hl : LN ln) (hn : hI S 69 1 = nI n) (h14 : n ≤ 14) (hv : VP n f) (hf : AG n (mf S 69) f) (h : post (nI (fnd (f 1) n)) S) : wpX8_founders ln S 68 post := by
  have key : ∀ m i, i + m = n → LX8_founders_4 ln post (m + 1) S 68 (nI (fnd (f 1) i)) (nI i) := by
    intro m
    induction m with
    | zero =>
      intro i hi
      rw [LX8_founders_4]
      dsimp only
      rw [sh68_0 hs, dn_e, ln69 hl, al_l1 (by decide) (by decide), hn, if_pos (nI_le (by omega) (by omega)), show i = n by omega]
      exact h
    | succ m ih =>
      intro i hi
      rw [LX8_founders_4]
      dsimp only
      unfold BX8_founders_29
      rw [sh68_0 hs, dn_e, ln69 hl, al_l1 (by decide) (by decide), hn, if_neg (nI_ge (by omega) (by omega)), p_of1 hs hl (by omega), hf 1 (by decide) i (by omega)]
      simp only [lt_e]
      rw [nI_1]
      have k := ih (i + 1) (by omega)
      rw [fnd] at k
      rcases hv.fat (show i < n by omega) with e | ⟨p, hp, e⟩
      · rw [if_pos e] at k
        rw [if_neg (by rw [e]; decide), nI_1]
        exact k
      · rw [if_neg (by rw [e]; exact m1_ne (by omega))] at k
        rw [if_pos (by rw [e]; exact nI_pos' (by omega)), show nI (fnd (f 1) i) + 0 = nI (fnd (f 1) i + 0) from nI_add _ 0]
        exact k
  exact ⟨n + 1, key n 0 (by omega)⟩
theorem s_count {N : Nat} {ln : Nat → Nat} {S : HC} (h : PI N ln S) (a1 : Int32) : wpX7_count ln S 0 a1 fun v S => wpX8_count ln S 68 a1 fun w S => OK N ln v w S := by
  obtain ⟨⟨hs, hl, -, -⟩, ⟨⟨n, hn⟩, m, m1, m2, m3, -⟩, -, ⟨k, k1, k2, k3, -⟩, -, -, ⟨w, w1, w2, w3, -⟩, -⟩ := id h
  have h14 := hn.1
  obtain ⟨x1, x2, x3, x4, x5, x6, x7, x8⟩ := hn
  unfold wpX7_count
  simp only [sh0_0 hs, sh0_5 hs, sh37_0 hs, dn_e, lt_e]
  by_cases c0 : a1 = 0
  · subst c0
    rw [if_pos rfl]
    unfold wpX8_count
    rw [if_pos rfl, sh68_0 hs, dn_e, ln69 hl, al_l1 (by decide) (by decide)]
    exact ⟨x2.trans x3.symm, h⟩
  rw [if_neg c0]
  by_cases c1 : a1 = 1
  · subst c1
    rw [if_pos rfl]
    unfold wpX8_count
    rw [if_neg (by decide), if_pos rfl, sh68_0 hs, dn_e, ln69 hl, al_l2 (by decide) (by decide)]
    exact ⟨x7.1, h⟩
  rw [if_neg c1]
  by_cases c2 : a1 = 2
  · subst c2
    rw [if_pos rfl]
    unfold wpX8_count
    rw [if_neg (by decide), if_neg (by decide), if_pos rfl, sh68_0 hs, dn_e, ln69 hl, al_l3 (by decide) (by decide)]
    exact ⟨x6.1, h⟩
  rw [if_neg c2]
  by_cases c3 : a1 = 3
  · subst c3
    rw [if_pos rfl]
    refine p_founders (g := mf S 69 1) hs hl (Or.inl rfl) x2 h14 (fun j hj => x4 1 (by decide) j hj) ?_
    unfold wpX8_count
    rw [if_neg (by decide), if_neg (by decide), if_neg (by decide), if_pos rfl]
    exact p_mfounders hs hl x3 h14 x5 (fun _ _ _ _ => rfl) ⟨rfl, h⟩
  rw [if_neg c3]
  by_cases c4 : a1 = 4
  · subst c4
    rw [if_pos rfl]
    unfold wpX8_count
    rw [if_neg (by decide), if_neg (by decide), if_neg (by decide), if_neg (by decide), if_pos rfl, sh68_0 hs, dn_e, ln69 hl, al_l4 (by decide) (by decide)]
    exact ⟨m2.trans m3.symm, h⟩
  rw [if_neg c4]
  by_cases c5 : a1 = 5
  · subst c5
    rw [if_pos rfl]
    unfold wpX8_count
    rw [if_neg (by decide), if_neg (by decide), if_neg (by decide), if_neg (by decide), if_neg (by decide), if_pos rfl, lt_e]
    exact ⟨w2.trans w3.symm, h⟩
  rw [if_neg c5]
  by_cases c6 : a1 = 6
  · subst c6
    rw [if_pos rfl]
    unfold wpX8_count
    rw [if_neg (by decide), if_neg (by decide), if_neg (by decide), if_neg (by decide), if_neg (by decide), if_neg (by decide), if_pos rfl, lt_e]
    exact ⟨k2.trans k3.symm, h⟩
  rw [if_neg c6]
  by_cases c7 : a1 = 7
  · subst c7
    rw [if_pos rfl]
    unfold wpX8_count
    rw [if_neg (by decide), if_neg (by decide), if_neg (by decide), if_neg (by decide), if_neg (by decide), if_neg (by decide), if_neg (by decide), if_pos rfl, sh68_0 hs, dn_e, ln69 hl, al_l0 (by decide) (by decide)]
    exact ⟨x8, h⟩
  rw [if_neg c7]
  unfold wpX8_count
  rw [if_neg c0, if_neg c1, if_neg c2, if_neg c3, if_neg c4, if_neg c5, if_neg c6, if_neg c7]
  exact ⟨rfl, h⟩
