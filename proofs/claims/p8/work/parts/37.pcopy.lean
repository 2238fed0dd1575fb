/-! step: places of a row copied into a row -/
abbrev spn (x y : Int32) (l : Nat) : Prop := 0 ≤ x ∧ 0 ≤ y ∧ x.toInt + y.toInt ≤ (l : Int)
theorem z0i : (0 : Int32).toInt = 0 := rfl
theorem spn_out {x y : Int32} {l : Nat} (h : spn x y l) : ∃ p c, x = nI p ∧ y = nI c ∧ p + c ≤ l := by
  obtain ⟨h1, h2, h3⟩ := h
  rw [i_le, z0i] at h1 h2
  exact ⟨x.toInt.toNat, y.toInt.toNat, i_of (by omega), i_of (by omega), by omega⟩
theorem sub_ti {y : Int32} {l : Nat} (hl : l < 2 ^ 31) (hy : 0 ≤ y) : (nI l - y).toInt = (l : Int) - y.toInt := by
  have h2 := hy
  rw [i_le, z0i] at h2
  have r := (i_rng y).2
  rw [Int32.toInt_sub, nI_toInt hl]
  apply Int.bmod_eq_of_le <;> omega
theorem p_hasSpan {ln : Nat → Nat} {S : HC} {r l : Nat} {x y : Int32} {post : Int32 → HC → Prop} (hl : hI S r 1 = nI l) (h24 : l ≤ 24) : wpX3_hasSpan ln S r x y post = post (bI (spn x y l)) S := by
  unfold wpX3_hasSpan BX3_hasSpan_30
  simp only [rb_e0, rb_e1, lt_e, hl]
  by_cases h1 : x < 0
  · rw [if_pos h1, bI_f (fun q => absurd h1 (Int32.not_lt.mpr q.1))]
  rw [if_neg h1]
  by_cases h2 : y < 0
  · rw [if_pos h2, bI_f (fun q => absurd h2 (Int32.not_lt.mpr q.2.1))]
  rw [if_neg h2]
  have g1 := Int32.not_lt.mp h1
  have g2 := Int32.not_lt.mp h2
  have k1 := g1
  have k2 := g2
  rw [i_le, z0i] at k1 k2
  have e := sub_ti (l := l) (by omega) g2
  by_cases h3 : nI l < y
  · rw [if_pos h3, bI_f (fun q => by
      have := q.2.2
      rw [i_lt, nI_toInt (by omega)] at h3
      omega)]
  rw [if_neg h3]
  by_cases h4 : nI l - y < x
  · rw [if_pos h4, bI_f (fun q => by
      have := q.2.2
      rw [i_lt, e] at h4
      omega)]
  · rw [if_neg h4, bI_t ⟨g1, g2, by rw [i_lt, e] at h4; omega⟩]
theorem p_cp {ln : Nat → Nat} {S : HC} {r1 r2 p q c : Nat} {K : HC → Prop} (h1 : ln r1 = 24) (h2 : ln r2 = 24) (hp : p + c ≤ 24) (hq : q + c ≤ 24) (h : K (sC S r1 p r2 q c)) : cp_ ln S r1 (nI p) r2 (nI q) (nI c) K := by
  unfold cp_
  rw [nI_clamp (by omega), nI_clamp (by omega), nI_clamp (by omega), h1, h2]
  exact ⟨⟨nI_pos (by omega), nI_pos (by omega), nI_pos (by omega)⟩, ⟨hp, hq⟩, h⟩
theorem p_mcp1 {ln : Nat → Nat} {S : HC} {b q c : Nat} {post : Int32 → HC → Prop} (hs : SH S) (hl : LN ln) (hb : b < 4) (hq : q + c ≤ 24) (h : ∀ S', Fl S S' 84 (24 * b + q) (24 * b + q + c) (fun k => hI S 89 (k - (24 * b + q))) → post (nI c) S') : ∃ n, LX8_copy_141 ln post n S 68 (nI b) (nI q) (nI c) 0 := by
  have key : ∀ m j S', j + m = c → Fl S S' 84 (24 * b + q) (24 * b + q + j) (fun k => hI S 89 (k - (24 * b + q))) → LX8_copy_141 ln post (m + 1) S' 68 (nI b) (nI q) (nI c) (nI j) := by
    intro m
    induction m with
    | zero =>
      intro j S' hj hF
      rw [LX8_copy_141]
      dsimp only
      rw [if_pos (nI_le (by omega) (by omega))]
      have ej : j = c := by omega
      rw [ej] at hF
      exact h S' hF
    | succ m ih =>
      intro j S' hj hF
      rw [LX8_copy_141]
      dsimp only
      rw [if_neg (nI_ge (by omega) (by omega)), sh68_26 (hF.sh hs), sh68_31 (hF.sh hs)]
      simp only [dn_e, lt_e]
      rw [show (24 : Int32) * nI b = nI (24 * b) from pk_mul 24 b, nI_add, nI_add, ln89 hl, al_e (by omega) (by decide), ln84 hl, as_e (by omega) (by decide), nI_1]
      exact ih (j + 1) _ (by omega) (hF.step (by omega) (by rw [hF.o (by decide), show 24 * b + q + j - (24 * b + q) = j by omega]))
  exact ⟨c + 1, key c 0 S (by omega) (Fl.rf _ _ _ _)⟩
theorem p_mcp0 {ln : Nat → Nat} {S : HC} {a b p q c : Nat} {post : Int32 → HC → Prop} (hs : SH S) (hl : LN ln) (ha : a < 4) (hp : p + c ≤ 24) (h : ∀ S', Fl S S' 89 0 c (fun j => hI S 84 (24 * a + p + j)) → ∃ n, LX8_copy_141 ln post n S' 68 (nI b) (nI q) (nI c) 0) : ∃ n, LX8_copy_104 ln post n S 68 (nI a) (nI p) (nI b) (nI q) (nI c) 0 := by
  have key : ∀ m j S', j + m = c → Fl S S' 89 0 j (fun j => hI S 84 (24 * a + p + j)) → LX8_copy_104 ln post (m + 1) S' 68 (nI a) (nI p) (nI b) (nI q) (nI c) (nI j) := by
    intro m
    induction m with
    | zero =>
      intro j S' hj hF
      rw [LX8_copy_104]
      dsimp only
      rw [if_pos (nI_le (by omega) (by omega))]
      have ej : j = c := by omega
      rw [ej] at hF
      exact h S' hF
    | succ m ih =>
      intro j S' hj hF
      rw [LX8_copy_104]
      dsimp only
      rw [if_neg (nI_ge (by omega) (by omega)), sh68_26 (hF.sh hs), sh68_31 (hF.sh hs)]
      simp only [dn_e, lt_e]
      rw [show (24 : Int32) * nI a = nI (24 * a) from pk_mul 24 a, nI_add, nI_add, ln84 hl, al_e (by omega) (by decide), ln89 hl, as_e (by omega) (by decide), nI_1]
      exact ih (j + 1) _ (by omega) (hF.step (by omega) (by rw [hF.o (by decide)]))
  exact ⟨c + 1, key c 0 S (by omega) (Fl.rf _ _ _ _)⟩
theorem s_copy {N : Nat} {ln : Nat → Nat} {S : HC} (h : PI N ln S) (a1 a2 a3 a4 a5 : Int32) : wpX7_copy ln S 0 a1 a2 a3 a4 a5 fun v S => wpX8_copy ln S 68 a1 a2 a3 a4 a5 fun w S => OK N ln v w S := by
  obtain ⟨⟨hs, hl, -, -⟩, -, -, -, hr, -⟩ := id h
  unfold wpX7_copy BX7_copy_14 BX7_copy_49 BX7_copy_91
  rw [p_isSheet]
  by_cases c : 0 ≤ a1 ∧ a1 < 4
  · obtain ⟨a, ha, rfl⟩ := ge_of (n := 4) (by decide) c
    obtain ⟨⟨b1, b2⟩, ⟨l, l1, l2, l3⟩, b3⟩ := hr a ha
    rw [bI_t c, if_neg (by decide), p_isSheet]
    by_cases d : 0 ≤ a3 ∧ a3 < 4
    · obtain ⟨b, hb, rfl⟩ := ge_of (n := 4) (by decide) d
      obtain ⟨⟨e1, e2⟩, ⟨k, k1, k2, k3⟩, e3⟩ := hr b hb
      rw [bI_t d, if_neg (by decide)]
      simp only [sh0_6 hs, dn_e, ln41 hl, al_e (i := a) (n := 4) ha (by decide), al_e (i := b) (n := 4) hb (by decide), (rw_o hs ha).1, (rw_o hs hb).1, p_isMissing, b1, e1, lt_e]
      have p0 : ∀ t, t < 4 → (¬ hI S 82 t = -1) → ¬ hI S 82 t < 0 := fun t ht q => by
        rcases (hr t ht).1.2 with e | e | e
        · exact absurd e q
        · rw [e]; decide
        · rw [e]; decide
      have mm : ∀ (S1 : HC) (v : Int32), SH S1 → (∀ r k, 82 ≤ r → hI S1 r k = hI S r k) → ((hI S 82 a = -1 ∨ hI S 82 b = -1) → OK N ln v (-1000000011) S1) → (¬ hI S 82 a = -1 → ¬ hI S 82 b = -1 → ¬ hI S 82 a = hI S 82 b → OK N ln v (-1000000012) S1) → (¬ hI S 82 a = -1 → ¬ hI S 82 b = -1 → hI S 82 a = hI S 82 b → ¬ (spn a2 a5 l ∧ spn a4 a5 k) → OK N ln v (-1000000013) S1) → (∀ p q c, ¬ hI S 82 a = -1 → ¬ hI S 82 b = -1 → hI S 82 a = hI S 82 b → a2 = nI p → a4 = nI q → a5 = nI c → p + c ≤ l → q + c ≤ k → ∃ n, LX8_copy_104 ln (fun w S => OK N ln v w S) n S1 68 (nI a) (nI p) (nI b) (nI q) (nI c) 0) → wpX8_copy ln S1 68 (nI a) a2 (nI b) a4 a5 fun w S => OK N ln v w S := fun S1 v hs1 r1 v1 v2 v3 v4 => by
        unfold wpX8_copy BX8_copy_14 BX8_copy_35 BX8_copy_97
        simp only [p_mSheet, shE, bI_t c, bI_t d, sh68_24 hs1, sh68_25 hs1, dn_e, ln82 hl, ln83 hl, lt_e]
        rw [if_neg (by decide), if_neg (by decide), al_e ha (by decide), al_e hb (by decide), al_e ha (by decide), al_e hb (by decide), al_e ha (by decide), al_e hb (by decide), r1 82 a (by decide), r1 82 b (by decide), r1 83 a (by decide), r1 83 b (by decide), l3, k3]
        by_cases u1 : hI S 82 a = -1
        · rw [if_pos (by rw [u1]; decide)]; exact v1 (Or.inl u1)
        rw [if_neg (p0 a ha u1)]
        by_cases u2 : hI S 82 b = -1
        · rw [if_neg (by rw [u2]; decide)]; exact v1 (Or.inr u2)
        rw [if_pos (Int32.not_lt.mp (p0 b hb u2))]
        by_cases u3 : hI S 82 a = hI S 82 b
        · rw [if_pos u3]
          by_cases w1 : a2 < 0
          · rw [if_pos w1]; exact v3 u1 u2 u3 (fun q => absurd w1 (Int32.not_lt.mpr q.1.1))
          rw [if_neg w1]
          by_cases w2 : a4 < 0
          · rw [if_pos w2]; exact v3 u1 u2 u3 (fun q => absurd w2 (Int32.not_lt.mpr q.2.1))
          rw [if_neg w2]
          by_cases w3 : a5 < 0
          · rw [if_pos w3]; exact v3 u1 u2 u3 (fun q => absurd w3 (Int32.not_lt.mpr q.1.2.1))
          rw [if_neg w3]
          have g1 := Int32.not_lt.mp w1
          have g2 := Int32.not_lt.mp w2
          have g3 := Int32.not_lt.mp w3
          have el := sub_ti (l := l) (by omega) g3
          have ek := sub_ti (l := k) (by omega) g3
          by_cases w4 : nI l - a5 < a2
          · rw [if_pos w4]
            rw [i_lt, el] at w4
            exact v3 u1 u2 u3 (fun q => by have := q.1.2.2; omega)
          rw [if_neg w4]
          rw [i_lt, el] at w4
          by_cases w5 : a4 ≤ nI k - a5
          · rw [if_pos w5]
            rw [i_le, ek] at w5
            obtain ⟨p, c5, rfl, rfl, o1⟩ := spn_out (l := l) (x := a2) (y := a5) ⟨g1, g3, by omega⟩
            obtain ⟨q, c6, rfl, o2, o3⟩ := spn_out (l := k) (x := a4) (y := nI c5) ⟨g2, g3, by omega⟩
            have := (nI_eq (by omega) (by omega)).mp o2
            subst this
            exact v4 p q c5 u1 u2 u3 rfl rfl rfl o1 o3
          · rw [if_neg w5]
            rw [i_le, ek] at w5
            exact v3 u1 u2 u3 (fun q => by have := q.2.2.2; omega)
        · rw [if_neg u3]; exact v2 u1 u2 u3
      by_cases u1 : hI S 82 a = -1
      · rw [bI_t u1, if_neg (by decide)]
        exact mm S _ hs (fun _ _ _ => rfl) (fun _ => ⟨rfl, h⟩) (fun q => absurd u1 q) (fun q => absurd u1 q) (fun _ _ _ q => absurd u1 q)
      rw [bI_f u1, if_pos rfl]
      by_cases u2 : hI S 82 b = -1
      · rw [bI_t u2, if_neg (by decide)]
        exact mm S _ hs (fun _ _ _ => rfl) (fun _ => ⟨rfl, h⟩) (fun _ q => absurd u2 q) (fun _ q => absurd u2 q) (fun _ _ _ _ q => absurd u2 q)
      rw [bI_f u2, if_pos rfl]
      by_cases u3 : hI S 82 a = hI S 82 b
      · rw [if_pos u3, p_hasSpan l2 l1]
        have bad : ¬ (spn a2 a5 l ∧ spn a4 a5 k) → wpX8_copy ln S 68 (nI a) a2 (nI b) a4 a5 fun w S => OK N ln (-1000000013) w S := fun q => mm S _ hs (fun _ _ _ => rfl) (fun q => absurd q (by rintro (w | w); exact u1 w; exact u2 w)) (fun _ _ w => absurd u3 w) (fun _ _ _ _ => ⟨rfl, h⟩) (fun p q2 c5 _ _ _ g1 g2 g3 g4 g5 => absurd ⟨⟨by rw [g1]; exact nI_pos' (by omega), by rw [g3]; exact nI_pos' (by omega), by rw [g1, g3, nI_toInt (by omega), nI_toInt (by omega)]; omega⟩, ⟨by rw [g2]; exact nI_pos' (by omega), by rw [g3]; exact nI_pos' (by omega), by rw [g2, g3, nI_toInt (by omega), nI_toInt (by omega)]; omega⟩⟩ q)
        by_cases w1 : spn a2 a5 l
        · rw [bI_t w1, if_neg (by decide), p_hasSpan k2 k1]
          by_cases w2 : spn a4 a5 k
          · rw [bI_t w2, if_neg (by decide), (rw_o hs ha).2, dn_e, (rw_o hs hb).2, dn_e]
            obtain ⟨p, c5, rfl, rfl, o1⟩ := spn_out w1
            obtain ⟨q, c6, rfl, o2, o3⟩ := spn_out w2
            have ec := (nI_eq (by omega) (by omega)).mp o2
            subst ec
            refine p_cp (rw_n hl ha) (rw_n hl hb) (by omega) (by omega) ?_
            generalize hS1 : sC S (46 + 2 * a) p (46 + 2 * b) q c5 = S1
            have hs1 : SH S1 := by rw [← hS1]; exact hs
            have r1 : ∀ r k, r ≠ 46 + 2 * b → hI S1 r k = hI S r k := fun r k w => by rw [← hS1, hC_in, if_neg w]
            have r2 : ∀ j, hI S1 (46 + 2 * b) j = if q ≤ j ∧ j < q + c5 then hI S (46 + 2 * a) (p + (j - q)) else hI S (46 + 2 * b) j := fun j => by rw [← hS1, hC_in, if_pos rfl]; rfl
            refine mm S1 _ hs1 (fun r k w => r1 r k (by omega)) (fun w => absurd w (by rintro (w | w); exact u1 w; exact u2 w)) (fun _ _ w => absurd u3 w) (fun _ _ _ w => absurd ⟨w1, w2⟩ w) (fun p' q' c' _ _ _ g1 g2 g3 g4 g5 => ?_)
            have z1 := (nI_eq (by omega) (by omega)).mp g1
            have z2 := (nI_eq (by omega) (by omega)).mp g2
            have z3 := (nI_eq (by omega) (by omega)).mp g3
            subst z1
            subst z2
            subst z3
            refine p_mcp0 hs1 hl ha (by omega) (fun S2 f2 => p_mcp1 (f2.sh hs1) hl hb (by omega) (fun S3 f3 => ⟨rfl, ?_⟩))
            have t3 : ∀ r k, r ≠ 84 → r ≠ 89 → r ≠ 46 + 2 * b → hI S3 r k = hI S r k := fun r k w1 w2 w3 => by rw [f3.o w1, f2.o w2, r1 _ _ w3]
            have t4 : ∀ j, j < 24 → hI S3 84 (24 * b + j) = if q ≤ j ∧ j < q + c5 then hI S 84 (24 * a + (p + (j - q))) else hI S 84 (24 * b + j) := fun j hj => by
              by_cases w : q ≤ j ∧ j < q + c5
              · rw [if_pos w, f3.i (by omega) (by omega), f2.i (by omega) (by omega), r1 _ _ (by omega), show 24 * a + p + (24 * b + j - (24 * b + q)) = 24 * a + (p + (j - q)) by omega]
              · rw [if_neg w, f3.x (by omega), f2.o (by decide), r1 _ _ (by omega)]
            refine h.row (fun r k => by rw [f3.2, f2.2, ← hS1]; rfl) (fun r k w => t3 r k (by omega) (by omega) (by omega)) (hr.one (i := b) (fun t ht w => ⟨t3 _ _ (by omega) (by omega) (by omega), t3 _ _ (by omega) (by omega) (by omega), t3 _ _ (by omega) (by omega) (by omega), t3 _ _ (by omega) (by omega) (by omega), fun j hj => ⟨t3 _ _ (by omega) (by omega) (by omega), by rw [f3.x (by omega), f2.o (by decide), r1 _ _ (by omega)]⟩⟩) ?_)
            rw [t3 _ _ (by omega) (by omega) (by omega), t3 _ _ (by omega) (by omega) (by omega), t3 _ _ (by omega) (by omega) (by omega), t3 _ _ (by omega) (by omega) (by omega)]
            refine ⟨⟨e1, e2⟩, ⟨k, k1, k2, k3⟩, fun j hj => ?_⟩
            rw [t4 j hj, f3.o (by omega), f2.o (by omega), r2 j]
            by_cases w : q ≤ j ∧ j < q + c5
            · rw [if_pos w, if_pos w]; exact b3 _ (by omega)
            · rw [if_neg w, if_neg w]; exact e3 j hj
          · rw [bI_f w2, if_pos rfl]; exact bad (fun q => w2 q.2)
        · rw [bI_f w1, if_pos rfl]; exact bad (fun q => w1 q.1)
      · rw [if_neg u3]
        exact mm S _ hs (fun _ _ _ => rfl) (fun q => absurd q (by rintro (w | w); exact u1 w; exact u2 w)) (fun _ _ _ => ⟨rfl, h⟩) (fun _ _ q => absurd q u3) (fun _ _ _ _ _ q => absurd q u3)
    · rw [bI_f d, if_pos rfl]
      unfold wpX8_copy BX8_copy_14
      dsimp only
      rw [p_mSheet, shE, bI_t c, if_neg (by decide), p_mSheet, shE, bI_f d, if_pos rfl]
      exact ⟨rfl, h⟩
  · rw [bI_f c, if_pos rfl]
    unfold wpX8_copy BX8_copy_14
    dsimp only
    rw [p_mSheet, shE, bI_f c, if_pos rfl]
    exact ⟨rfl, h⟩
