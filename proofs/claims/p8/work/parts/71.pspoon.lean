/-! step spoon: both sides end, and nothing changes; the answers are the same where there is no sheet -/
theorem p_apartW {ln : Nat → Nat} {N : Nat} {S : HC} {n p i l : Nat} {f : Nat → Nat → Int32} {o : Option ((Nat → Int32) × Nat)} {post : Int32 → HC → Prop} (hs : SH S) (hl : LN ln) (hk : LK ln N S 1 n f o) (h14 : n ≤ 14) (hp : p < n) (hi : i < 4) (l1 : l ≤ 24) (l2 : hI S (45 + 2 * i) 1 = nI l) (h : ∀ z, post z S) : wpX4_apart ln S 25 (nI p) (45 + 2 * i) post := by
  have key : ∀ m ch x, ch + m = 8 → LX4_apart_5 ln post (m + 1) S 25 (nI p) (45 + 2 * i) x (nI ch) := by
    intro m
    induction m with
    | zero =>
      intro ch x hc
      have e : ch = 8 := by omega
      subst e
      rw [LX4_apart_5]
      dsimp only
      rw [if_pos (by decide)]
      exact h x
    | succ m ih =>
      intro ch x hc
      rw [LX4_apart_5]
      dsimp only
      unfold BX4_apart_42
      rw [if_neg (show ¬ (8 : Int32) ≤ nI ch from nI_ge (b := 8) (by omega) (by decide)), p_isNumber l2 l1 (rw_o hs hi).2 (rw_n hl hi) (by omega), lt_e, nI_1]
      by_cases q : ch < l ∧ ¬ hI S (46 + 2 * i) ch = -1000000005
      · rw [bI_t q, if_neg (by decide), p_shown (T := fun j => hI S 26 (14 * ch + j)) hs hl (Or.inl rfl) hk h14 (by omega) hp rfl, (rw_o hs hi).2, dn_e, rw_n hl hi, al_e (by omega) (by decide)]
        simp only [lt_e]
        exact ih (ch + 1) _ (by omega)
      · rw [bI_f q, if_pos rfl]
        exact ih (ch + 1) _ (by omega)
  exact ⟨9, key 8 0 0 (by omega)⟩
theorem p_xspoonW {ln : Nat → Nat} {N : Nat} {S : HC} {n i l : Nat} {f : Nat → Nat → Int32} {o : Option ((Nat → Int32) × Nat)} {x2 : Int32} {post : Int32 → HC → Prop} (hs : SH S) (hl : LN ln) (hk : LK ln N S 1 n f o) (h14 : n ≤ 14) (hi : i < 4) (l1 : l ≤ 24) (l2 : hI S (45 + 2 * i) 1 = nI l) (h : ∀ z, post z S) : ∀ m p x4 x5, p + m = n → LX7_spoon_58 ln post (m + 1) S 0 x2 (45 + 2 * i) x4 x5 (nI p) := by
  intro m
  induction m with
  | zero =>
    intro p x4 x5 hp
    rw [LX7_spoon_58]
    dsimp only
    rw [sh0_0 hs, dn_e, lt_e, hk.2.2.1, if_pos (nI_le (by omega) (by omega))]
    split
    · exact h _
    · exact h _
  | succ m ih =>
    intro p x4 x5 hp
    rw [LX7_spoon_58]
    dsimp only
    rw [sh0_0 hs, dn_e, lt_e, hk.2.2.1, if_neg (nI_ge (by omega) (by omega)), sh0_4 hs, dn_e]
    refine p_apartW hs hl hk h14 (by omega) hi l1 l2 (fun z => ?_)
    unfold BX7_spoon_96 BX7_spoon_104
    simp only [lt_e]
    rw [nI_1]
    split
    · exact ih (p + 1) _ _ (by omega)
    · split
      · exact ih (p + 1) _ _ (by omega)
      · exact ih (p + 1) _ _ (by omega)
theorem p_offByW {ln : Nat → Nat} {N : Nat} {S : HC} {b n p i l : Nat} {f : Nat → Nat → Int32} {o : Option ((Nat → Int32) × Nat)} {post : Int64 → HC → Prop} (hs : SH S) (hl : LN ln) (hk : MK ln N S b n f o) (h14 : n ≤ 14) (hp : p < n) (hi : i < 4) (l1 : l ≤ 24) (l3 : hI S 83 i = nI l) (h : ∀ z, post z S) : wpX8_offBy ln S 68 (nI i) (nI p) post := by
  have key : ∀ m k x, k + m = l → LX8_offBy_5 ln post (m + 1) S 68 (nI i) (nI p) x (nI k) := by
    intro m
    induction m with
    | zero =>
      intro k x hk2
      rw [LX8_offBy_5]
      dsimp only
      rw [sh68_25 hs, dn_e, ln83 hl, al_e hi (by decide), l3, if_pos (nI_le (by omega) (by omega))]
      exact h x
    | succ m ih =>
      intro k x hk2
      have nx : ∀ x6 t0 t1, BX8_offBy_51 ln post (LX8_offBy_5 ln post (m + 1)) S 68 (nI i) (nI p) x (nI k) x6 t0 t1 := fun x6 t0 t1 => by
        unfold BX8_offBy_51 BX8_offBy_82
        simp only [lt_e]
        rw [nI_1]
        split
        · exact ih (k + 1) _ (by omega)
        · split
          · exact ih (k + 1) _ (by omega)
          · exact ih (k + 1) _ (by omega)
      rw [LX8_offBy_5]
      dsimp only
      rw [sh68_25 hs, dn_e, ln83 hl, al_e hi (by decide), l3, if_neg (nI_ge (by omega) (by omega)), sh68_26 hs, dn_e, lt_e, lt_e, show (24 : Int32) * nI i = nI (24 * i) from pk_mul 24 i, nI_add, ln84 hl, al_e (by omega) (by decide), lt_e]
      by_cases q : 8 ≤ k
      · rw [if_pos (show (8 : Int32) ≤ nI k from nI_le (a := 8) q (by omega))]
        exact nx _ _ _
      · rw [if_neg (show ¬ (8 : Int32) ≤ nI k from nI_ge (b := 8) (by omega) (by decide)), p_borne (T := fun j => hI S 72 (8 * j + k)) hs hl hk h14 (by omega) hp rfl]
        exact nx _ _ _
  exact ⟨l + 1, key l 0 0 (by omega)⟩
theorem p_mspoonW {ln : Nat → Nat} {N : Nat} {S : HC} {b n i l : Nat} {f : Nat → Nat → Int32} {o : Option ((Nat → Int32) × Nat)} {x2 : Int32} {post : Int32 → HC → Prop} (hs : SH S) (hl : LN ln) (hk : MK ln N S b n f o) (h14 : n ≤ 14) (hi : i < 4) (l1 : l ≤ 24) (l3 : hI S 83 i = nI l) (h : ∀ z, post z S) : ∀ m p x3 x4, p + m = n → LX8_spoon_43 ln post (m + 1) S 68 (nI i) x2 x3 x4 (nI p) := by
  intro m
  induction m with
  | zero =>
    intro p x3 x4 hp
    rw [LX8_spoon_43]
    dsimp only
    rw [sh68_0 hs, dn_e, ln69 hl, al_l1 (by decide) (by decide), hk.1, if_pos (nI_le (by omega) (by omega)), lt_e]
    split
    · split
      · exact h _
      · exact h _
    · exact h _
  | succ m ih =>
    intro p x3 x4 hp
    rw [LX8_spoon_43]
    dsimp only
    rw [sh68_0 hs, dn_e, ln69 hl, al_l1 (by decide) (by decide), hk.1, if_neg (nI_ge (by omega) (by omega))]
    refine p_offByW hs hl hk h14 (by omega) hi l1 l3 (fun z => ?_)
    unfold BX8_spoon_75 BX8_spoon_82
    simp only [lt_e]
    rw [nI_1]
    split
    · exact ih (p + 1) _ _ (by omega)
    · split
      · exact ih (p + 1) _ _ (by omega)
      · exact ih (p + 1) _ _ (by omega)
theorem s_spoonW {N : Nat} {ln : Nat → Nat} {S : HC} (h : PI N ln S) (a1 a2 : Int32) : wpX7_spoon ln S 0 a1 a2 fun v S1 => wpX8_spoon ln S1 68 a1 a2 fun w S2 => PI N ln S2 ∧ ((∀ i, i < 4 → hI S 82 i = -1) → v = w) := by
  obtain ⟨⟨hs, hl, -, -⟩, ⟨⟨n, hn⟩, m, m1, m2, m3, m4⟩, -, -, hr, -⟩ := id h
  have h14 := hn.1
  have hv := hn.2.2.2.2.1
  have no : ¬ ((0 ≤ a1 ∧ a1 < 4) ∧ 0 ≤ a2 ∧ a2 ≤ 1) → wpX8_spoon ln S 68 a1 a2 fun w S2 => PI N ln S2 ∧ ((∀ i, i < 4 → hI S 82 i = -1) → -1000000001 = w) := fun u => by
    unfold wpX8_spoon BX8_spoon_16
    rw [p_mSheet, shE]
    by_cases c : 0 ≤ a1 ∧ a1 < 4
    · rw [bI_t c, if_neg (by decide), p_in, bI_f (fun q => u ⟨c, q⟩), if_pos rfl]
      exact ⟨h, fun _ => rfl⟩
    · rw [bI_f c, if_pos rfl]
      exact ⟨h, fun _ => rfl⟩
  unfold wpX7_spoon BX7_spoon_16 wpX4_workOutAll
  rw [p_isSheet]
  by_cases c : 0 ≤ a1 ∧ a1 < 4
  · rw [bI_t c, if_neg (by decide)]
    by_cases c3 : a2 < 0
    · rw [if_pos c3]; exact no (fun q => absurd c3 (Int32.not_lt.mpr q.2.1))
    rw [if_neg c3]
    by_cases c4 : a2 ≤ 1
    · rw [if_pos c4]
      obtain ⟨i, hi, rfl⟩ := ge_of (n := 4) (by decide) c
      obtain ⟨⟨b1, b2⟩, ⟨l, l1, l2, l3⟩, b3⟩ := hr i hi
      rw [sh0_6 hs, dn_e, ln41 hl, al_e hi (by decide), (rw_o hs hi).1, dn_e, p_isMissing, b1]
      by_cases c1 : hI S 82 i = -1
      · rw [bI_t c1, if_neg (by decide)]
        unfold wpX8_spoon
        try dsimp only
        rw [p_mSheet, shE, bI_t c, if_neg (by decide), p_in, bI_t ⟨Int32.not_lt.mp c3, c4⟩, if_neg (by decide), sh68_24 hs, dn_e, ln82 hl, al_e hi (by decide), c1, if_neg (by decide)]
        exact ⟨h, fun _ => rfl⟩
      rw [bI_f c1, if_pos rfl]
      have p0 : 0 ≤ hI S 82 i := by
        rcases b2 with e | e | e
        · exact absurd e c1
        · rw [e]; decide
        · rw [e]; decide
      rw [sh0_4 hs, dn_e, sh0_0 hs, dn_e]
      refine p_lookAt (n := n) (m := m) (f := mf S 69) hs hl (Or.inl rfl) hn.2.1 hn.2.2.2.1 h14 hn.2.2.1 (fun _ _ _ _ => rfl) m1 m2 m3 m4 (fun S1 o k1 k2 e1 e2 => ?_)
      have s1 := look_sm e1 e2
      have hs1 := hs.sm s1
      refine p_allOut hs1 hl (Or.inl rfl) k1 hv h14 (fun S2 w2 => ?_)
      have s2 := s1.tr (wo_sm w2.1 w2.2.2)
      have hs2 := hs.sm s2
      have k3 := k1.ag (Or.inl rfl) w2.1 w2.2.2
      have k2' := k2.wo w2.1 w2.2.2
      have l2' : hI S2 (45 + 2 * i) 1 = nI l := by rw [s2.1 _ _ (by unfold sc; omega)]; exact l2
      refine ⟨n + 1, p_xspoonW hs2 hl k3 h14 hi l1 l2' (fun z => ?_) n 0 _ _ (by omega)⟩
      unfold wpX8_spoon
      try dsimp only
      rw [p_mSheet, shE, bI_t c, if_neg (by decide), p_in, bI_t ⟨Int32.not_lt.mp c3, c4⟩, if_neg (by decide), sh68_24 hs2, dn_e, ln82 hl, al_e hi (by decide), s2.1 82 i (by unfold sc; omega), if_pos p0]
      refine p_worksAll hs2 hl k2' hv h14 (fun S3 w3 => ?_)
      have s3 := s2.tr w3.1.sm
      exact ⟨n + 1, p_mspoonW (w3.1.sh hs2) hl (k2'.ag w3.1) h14 hi l1 (by rw [s3.1 83 i (by unfold sc; omega)]; exact l3) (fun _ => ⟨h.sm s3, fun q => absurd (q i hi) c1⟩) n 0 _ _ (by omega)⟩
    · rw [if_neg c4]; exact no (fun q => c4 q.2.2)
  · rw [bI_f c, if_pos rfl]; exact no (fun q => c q.1)
