/-! years one behind the other; people that are drawn -/
abbrev LA : Type := Nat × (Nat → Nat → Int32) × Int32
def yK (fe : Int32) : Nat → LA → LA
  | 0, A => A
  | k + 1, A => yK fe k (yN A.1 A.2.1 fe A.2.2, yF A.1 A.2.1 fe A.2.2, yZ A.1 A.2.1 fe A.2.2)
theorem yK_le {fe : Int32} : ∀ (k : Nat) (A : LA), A.1 ≤ 14 → (yK fe k A).1 ≤ 14 ∧ A.1 ≤ (yK fe k A).1 := by
  intro k
  induction k with
  | zero => intro A h; exact ⟨h, Nat.le_refl _⟩
  | succ k ih =>
    intro A h
    obtain ⟨h1, h2, -⟩ := yN_le (f := A.2.1) (fe := fe) (z := A.2.2) h
    obtain ⟨i1, i2⟩ := ih (yN A.1 A.2.1 fe A.2.2, yF A.1 A.2.1 fe A.2.2, yZ A.1 A.2.1 fe A.2.2) h1
    exact ⟨i1, Nat.le_trans h2 i2⟩
theorem yK_ok {fe : Int32} : ∀ (k : Nat) (A : LA), VP A.1 A.2.1 → VP (yK fe k A).1 (yK fe k A).2.1 := by
  intro k
  induction k with
  | zero => intro A h; exact h
  | succ k ih => intro A h; exact ih _ (yF_ok h)
theorem p_years0 {ln : Nat → Nat} {fe : Int32} {n0 sp : Nat} {post : Int32 → HC → Prop} (hl : LN ln) (hsp : sp < 1000) : ∀ (m i y : Nat) (A : LA) (S : HC), i + m = sp → SH S → A.1 ≤ 14 → n0 ≤ A.1 → XA S 1 A.1 A.2.1 fe (nI y) A.2.2 → (∀ S', XA S' 1 (yK fe m A).1 (yK fe m A).2.1 fe (nI (y + m)) (yK fe m A).2.2 → XS 1 S S' → post (nI ((yK fe m A).1 - n0)) S') → LX7_years_35 ln post (m + 1) S 0 (nI sp) (nI (A.1 - n0)) (nI i) := by
  intro m
  induction m with
  | zero =>
    intro i y A S hi hs h14 hn0 hx h
    rw [LX7_years_35]
    dsimp only
    rw [if_pos (nI_le (by omega) (by omega))]
    exact h S hx (XS.rf _ _)
  | succ m ih =>
    intro i y A S hi hs h14 hn0 hx h
    rw [LX7_years_35]
    dsimp only
    rw [if_neg (nI_ge (by omega) (by omega)), sh0_0 hs, dn_e]
    refine p_pass hs hl (Or.inl rfl) hx h14 (fun S1 hx1 hd1 => ?_)
    obtain ⟨l1, l2, l3⟩ := yN_le (f := A.2.1) (fe := fe) (z := A.2.2) h14
    rw [show nI y + 1 = nI (y + 1) from nI_1 y] at hx1
    have key := ih (i + 1) (y + 1) (yN A.1 A.2.1 fe A.2.2, yF A.1 A.2.1 fe A.2.2, yZ A.1 A.2.1 fe A.2.2) S1 (by omega) (hd1.sh hs) l1 (by dsimp only; omega) hx1 (fun S2 hx2 hd2 => by
      have q := h S2 (by rw [show y + (m + 1) = y + 1 + m by omega]; exact hx2) (hd1.tr hd2)
      exact q)
    unfold BX7_years_54
    simp only [lt_e]
    rw [show (1 : Int32) = nI 1 from rfl, nI_add]
    by_cases e : yN A.1 A.2.1 fe A.2.2 = A.1
    · rw [if_pos e, if_pos rfl]
      dsimp only at key
      rw [e] at key
      exact key
    · rw [if_neg e, if_neg (by decide), nI_add]
      dsimp only at key
      rw [show A.1 - n0 + 1 = yN A.1 A.2.1 fe A.2.2 - n0 by omega]
      exact key
theorem p_goesOn {ln : Nat → Nat} {fe : Int32} {sp : Nat} {post : HC → Prop} (hl : LN ln) (hsp : sp < 1000) {y : Nat} {A : LA} {S : HC} (hs : SH S) (h14 : A.1 ≤ 14) (hx : MA S A.1 A.2.1 fe (nI y) A.2.2) (h : ∀ S', MA S' (yK fe sp A).1 (yK fe sp A).2.1 fe (nI (y + sp)) (yK fe sp A).2.2 → MS S S' → post S') : wpX8_goesOn ln S 68 (nI sp) post := by
  have key : ∀ (m i y : Nat) (A : LA) (S : HC), i + m = sp → SH S → A.1 ≤ 14 → MA S A.1 A.2.1 fe (nI y) A.2.2 → (∀ S', MA S' (yK fe m A).1 (yK fe m A).2.1 fe (nI (y + m)) (yK fe m A).2.2 → MS S S' → post S') → LX8_goesOn_2 ln post (m + 1) S 68 (nI sp) (nI i) := by
    intro m
    induction m with
    | zero =>
      intro i y A S hi hs h14 hx h
      rw [LX8_goesOn_2]
      dsimp only
      rw [if_pos (nI_le (by omega) (by omega))]
      exact h S hx (MS.rf _)
    | succ m ih =>
      intro i y A S hi hs h14 hx h
      rw [LX8_goesOn_2]
      dsimp only
      rw [if_neg (nI_ge (by omega) (by omega))]
      refine p_year hs hl hx h14 (fun S1 hx1 hd1 => ?_)
      obtain ⟨l1, l2, l3⟩ := yN_le (f := A.2.1) (fe := fe) (z := A.2.2) h14
      rw [show nI y + 1 = nI (y + 1) from nI_1 y] at hx1
      rw [lt_e, show (1 : Int32) = nI 1 from rfl, nI_add]
      exact ih (i + 1) (y + 1) (yN A.1 A.2.1 fe A.2.2, yF A.1 A.2.1 fe A.2.2, yZ A.1 A.2.1 fe A.2.2) S1 (by omega) (hd1.sh hs) l1 hx1 (fun S2 hx2 hd2 => h S2 (by rw [show y + (m + 1) = y + 1 + m by omega]; exact hx2) (hd1.tr hd2))
  exact ⟨sp + 1, key sp 0 y A S (by omega) hs h14 hx h⟩
/-- both lands behind changes of their own: the relation -/
theorem PI.both {N : Nat} {ln : Nat → Nat} {S S1 S2 : HC} (h : PI N ln S) (d1 : XS 1 S S1) (d2 : MS S1 S2) {n : Nat} (hn : LR S2 1 69 n) : PI N ln S2 := by
  have e : ∀ r k, ¬ ((1 ≤ r ∧ r ≤ 7) ∨ r = 69) → hI S2 r k = hI S r k := fun r k q => by rw [d2.1 r k (by omega), d1.1 r k (by omega)]
  have er : ∀ r k, hR S2 r k = hR S r k := fun r k => by rw [d2.2.2, d1.2.2]
  exact h.now er e ⟨⟨n, hn⟩, h.2.1.2.ag (fun r k q => e r k (by omega)) (fun r k _ => er r k) (fun k q => by rw [d2.2.1 k (Or.inl q), d1.1 _ _ (by omega)]) (by rw [d2.1 _ _ (by decide), d1.2.1]) (by rw [d2.2.1 4 (Or.inr rfl), d1.1 _ _ (by omega)]) (fun k => er _ _)⟩
theorem s_years {N : Nat} {ln : Nat → Nat} {S : HC} (h : PI N ln S) (a1 : Int32) : wpX7_years ln S 0 a1 fun v S => wpX8_years ln S 68 a1 fun w S => OK N ln v w S := by
  obtain ⟨⟨hs, hl, -, -⟩, ⟨⟨n, hn⟩, hw⟩, -⟩ := id h
  have h14 := hn.1
  unfold wpX7_years BX7_years_11
  simp only [sh0_0 hs, dn_e, lt_e]
  by_cases h1 : a1 < 1
  · rw [if_pos h1]
    unfold wpX8_years
    rw [p_in, bI_f (fun q => absurd h1 (Int32.not_lt.mpr q.1)), if_pos rfl]
    exact ⟨rfl, h⟩
  rw [if_neg h1]
  by_cases h2 : a1 ≤ 100
  · rw [if_pos h2]
    obtain ⟨c, hc, rfl⟩ := nI_of2 (n := 100) (M := 100) (x := a1) rfl (fun q => h1 (Int32.lt_trans q (by decide))) h2
    have hc1 : 1 ≤ c := by
      rcases Nat.eq_zero_or_pos c with e | e
      · subst e; exact absurd (by decide) h1
      · exact e
    obtain ⟨f, fe, ye, z, x1, x2, x3, x4, y, hy, rfl⟩ := hn.out
    rw [x1.2.2.2.1, show (9999 : Int32) - nI y = nI (9999 - y) from pk_sub (a := 9999) hy]
    obtain ⟨sp, hsp, esp⟩ : ∃ sp, (sp ≤ 100 ∧ y + sp ≤ 9999) ∧ (if nI (9999 - y) < nI c then nI (9999 - y) else nI c) = nI sp ∧ (if nI (9999 - y) < 0 then (0 : Int32) else if nI c < nI (9999 - y) then nI c else nI (9999 - y)) = nI sp := by
      rw [if_neg (nI_pos (n := 9999 - y) (by omega))]
      by_cases e : 9999 - y < c
      · exact ⟨9999 - y, by omega, by rw [if_pos (nI_lt e (by omega))], by rw [if_neg (nI_nlt (by omega) (by omega))]⟩
      · refine ⟨c, by omega, by rw [if_neg (nI_nlt (by omega) (by omega))], ?_⟩
        by_cases e2 : c < 9999 - y
        · rw [if_pos (nI_lt e2 (by omega))]
        · rw [if_neg (nI_nlt (by omega) (by omega)), show 9999 - y = c by omega]
    rw [esp.1]
    refine ⟨sp + 1, ?_⟩
    have key := p_years0 (ln := ln) (fe := fe) (n0 := n) (sp := sp) (post := fun v S => wpX8_years ln S 68 (nI c) fun w S => OK N ln v w S) hl (by omega) sp 0 y (n, f, z) S (by omega) hs h14 (Nat.le_refl _) x1 (fun S1 hx1 hd1 => ?_)
    · dsimp only at key
      rw [Nat.sub_self] at key
      exact key
    have hs1 := hd1.sh hs
    have m1 : MA S1 n f fe (nI y) z := x2.ag h14 (fun k _ => hd1.1 _ _ (by omega))
    unfold wpX8_years
    rw [p_in, bI_t ⟨show (1 : Int32) ≤ nI c from nI_le (a := 1) hc1 (by omega), show nI c ≤ 100 from nI_le (b := 100) hc (by decide)⟩, if_neg (by decide), sh68_0 hs1]
    simp only [dn_e, ln69 hl]
    rw [al_l1 (by decide) (by decide), al_l2 (by decide) (by decide), m1.1, m1.2.2.2.1, lt_e, show (9999 : Int32) - nI y = nI (9999 - y) from pk_sub (a := 9999) hy, p_mwithin, esp.2]
    refine p_goesOn (A := (n, f, z)) hl (by omega) hs1 h14 m1 (fun S2 hx2 hd2 => ?_)
    obtain ⟨l1, l2⟩ := yK_le (fe := fe) sp (n, f, z) h14
    rw [sh68_0 (hd2.sh hs1), dn_e, ln69 hl, al_l1 (by decide) (by decide), lt_e, hx2.1, pk_sub l2]
    exact ⟨rfl, h.both hd1 hd2 (LR.of l1 (hx1.ag (fun r k q1 q2 => hd2.1 r k (by omega))) hx2 (yK_ok sp (n, f, z) x3) x4 ⟨y + sp, by omega, rfl⟩)⟩
  · rw [if_neg h2]
    unfold wpX8_years
    rw [p_in, bI_f (fun q => h2 q.2), if_pos rfl]
    exact ⟨rfl, h⟩
def dF (A : LA) : LA := (A.1 + 1, upP A.2.1 A.1 (nI (dN (dz A.2.2) % 6)) (-1) (-1) (nI (dN (dz (dz A.2.2)) % 2)) (nI (dN (dz (dz (dz A.2.2))) % 8)), dz (dz (dz A.2.2)))
def dK : Nat → LA → LA
  | 0, A => A
  | k + 1, A => dK k (dF A)
theorem dK_n : ∀ (k : Nat) (A : LA), (dK k A).1 = A.1 + k := by
  intro k
  induction k with
  | zero => intro A; rfl
  | succ k ih => intro A; rw [dK, ih]; simp only [dF]; omega
theorem dK_ok : ∀ (k : Nat) (A : LA), VP A.1 A.2.1 → VP (dK k A).1 (dK k A).2.1 := by
  intro k
  induction k with
  | zero => intro A h; exact h
  | succ k ih =>
    intro A h
    refine ih _ (h.add ⟨_, Nat.mod_lt _ (by decide), rfl⟩ (Or.inl rfl) (Or.inl rfl) ?_ ⟨_, Nat.mod_lt _ (by decide), rfl⟩)
    rcases (show dN (dz (dz A.2.2)) % 2 = 0 ∨ dN (dz (dz A.2.2)) % 2 = 1 by omega) with e | e <;> rw [e]
    · exact Or.inl rfl
    · exact Or.inr rfl
theorem p_deal0 {ln : Nat → Nat} {fe : Int32} {c t : Nat} {ye : Int32} {post : Int32 → HC → Prop} (hl : LN ln) (hc : c ≤ 14) : ∀ (m i : Nat) (A : LA) (S : HC), i + m = t → (t = c ∨ (t < c ∧ A.1 + m = 14)) → SH S → A.1 + m ≤ 14 → XA S 1 A.1 A.2.1 fe ye A.2.2 → (∀ S', XA S' 1 (dK m A).1 (dK m A).2.1 fe ye (dK m A).2.2 → XS 1 S S' → post (nI t) S') → LX7_deal_16 ln post (m + 1) S 0 (nI c) (nI i) := by
  intro m
  induction m with
  | zero =>
    intro i A S hi ht hs h14 hx h
    rw [LX7_deal_16]
    dsimp only
    have hit : i = t := by omega
    subst hit
    unfold BX7_deal_44
    have q := h S hx (XS.rf _ _)
    rcases ht with e | ⟨e1, e2⟩
    · rw [if_pos (nI_le (by omega) (by omega))]; exact q
    · rw [if_neg (nI_ge (by omega) (by omega)), sh0_0 hs, dn_e, p_hasRoom hx.1 (by omega), bI_f (by omega), if_pos rfl]; exact q
  | succ m ih =>
    intro i A S hi ht hs h14 hx h
    rw [LX7_deal_16]
    dsimp only
    rw [if_neg (nI_ge (by omega) (by omega)), sh0_0 hs, dn_e, p_hasRoom hx.1 (by omega), bI_t (by omega), if_neg (by decide), sh0_0 hs, dn_e]
    unfold wpX0_drawFounder
    refine d_X hs hx (fun S1 hs1 hx1 hd1 => ?_)
    rw [ne_e (by decide), lt_e, show (6 : Int32) = nI 6 from rfl, drem _ (by decide) (by decide)]
    refine d_X hs1 hx1 (fun S2 hs2 hx2 hd2 => ?_)
    rw [ne_e (by decide), lt_e, show (2 : Int32) = nI 2 from rfl, drem _ (by decide) (by decide)]
    refine d_X hs2 hx2 (fun S3 hs3 hx3 hd3 => ?_)
    rw [ne_e (by decide), lt_e, show (8 : Int32) = nI 8 from rfl, drem _ (by decide) (by decide), p_add hs3 hl (Or.inl rfl) hx3.1 (by omega)]
    try dsimp only
    rw [lt_e, nI_1]
    have hd4 : XS 1 S (xadd S3 1 A.1 (nI (dN (dz A.2.2) % 6)) (-1) (-1) (nI (dN (dz (dz A.2.2)) % 2)) (nI (dN (dz (dz (dz A.2.2))) % 8))) := ((hd1.tr hd2).tr hd3).tr ⟨fun r k q => xadd_o q, xadd_s (by decide), fun _ _ => rfl⟩
    exact ih (i + 1) (dF A) _ (by omega) (by simp only [dF]; omega) (hd4.sh hs) (by simp only [dF]; omega) hx3.add (fun S5 hx5 hd5 => h S5 hx5 (hd4.tr hd5))
theorem p_mdeal0 {ln : Nat → Nat} {fe : Int32} {c t : Nat} {ye : Int32} {post : Int32 → HC → Prop} (hl : LN ln) (hc : c ≤ 14) : ∀ (m i : Nat) (A : LA) (S : HC), i + m = t → (t = c ∨ (t < c ∧ A.1 + m = 14)) → SH S → A.1 + m ≤ 14 → MA S A.1 A.2.1 fe ye A.2.2 → (∀ S', MA S' (dK m A).1 (dK m A).2.1 fe ye (dK m A).2.2 → MS S S' → post (nI t) S') → LX8_deal_15 ln post (m + 1) S 68 (nI c) (nI i) := by
  intro m
  induction m with
  | zero =>
    intro i A S hi ht hs h14 hx h
    rw [LX8_deal_15]
    dsimp only
    have hit : i = t := by omega
    subst hit
    unfold BX8_deal_71
    have q := h S hx (MS.rf _)
    rcases ht with e | ⟨e1, e2⟩
    · rw [if_pos (nI_le (by omega) (by omega))]; exact q
    · rw [if_neg (nI_ge (by omega) (by omega)), sh68_0 hs, dn_e, ln69 hl, al_l1 (by decide) (by decide), hx.1, if_pos (show (14 : Int32) ≤ nI A.1 from nI_le (a := 14) (by omega) (by omega))]; exact q
  | succ m ih =>
    intro i A S hi ht hs h14 hx h
    rw [LX8_deal_15]
    dsimp only
    rw [if_neg (nI_ge (by omega) (by omega)), sh68_0 hs, dn_e, ln69 hl, al_l1 (by decide) (by decide), hx.1, if_neg (show ¬ (14 : Int32) ≤ nI A.1 from nI_ge (b := 14) (by omega) (by decide))]
    refine d_M hs hl hx (fun S1 hs1 hx1 hd1 => ?_)
    rw [ne_e (by decide), lt_e, show (6 : Int32) = nI 6 from rfl, drem _ (by decide) (by decide)]
    refine d_M hs1 hl hx1 (fun S2 hs2 hx2 hd2 => ?_)
    rw [ne_e (by decide), lt_e, show (2 : Int32) = nI 2 from rfl, drem _ (by decide) (by decide)]
    refine d_M hs2 hl hx2 (fun S3 hs3 hx3 hd3 => ?_)
    rw [ne_e (by decide), lt_e, show (8 : Int32) = nI 8 from rfl, drem _ (by decide) (by decide), p_comes hs3 hl hx3.1 (by omega)]
    try dsimp only
    rw [lt_e, nI_1]
    have hd4 : MS S (madd S3 A.1 (nI (dN (dz A.2.2) % 6)) (-1) (-1) (nI (dN (dz (dz A.2.2)) % 2)) (nI (dN (dz (dz (dz A.2.2))) % 8))) := ((hd1.tr hd2).tr hd3).tr ⟨fun r k q => madd_o (by omega), fun k q => madd_o (by omega), fun _ _ => rfl⟩
    exact ih (i + 1) (dF A) _ (by omega) (by simp only [dF]; omega) (hd4.sh hs) (by simp only [dF]; omega) hx3.add (fun S5 hx5 hd5 => h S5 hx5 (hd4.tr hd5))
theorem s_deal {N : Nat} {ln : Nat → Nat} {S : HC} (h : PI N ln S) (a1 : Int32) : wpX7_deal ln S 0 a1 fun v S => wpX8_deal ln S 68 a1 fun w S => OK N ln v w S := by
  obtain ⟨⟨hs, hl, -, -⟩, ⟨⟨n, hn⟩, hw⟩, -⟩ := id h
  have h14 := hn.1
  unfold wpX7_deal BX7_deal_11
  by_cases h1 : a1 < 1
  · rw [if_pos h1]
    unfold wpX8_deal
    dsimp only
    rw [p_in, bI_f (fun q => absurd h1 (Int32.not_lt.mpr q.1)), if_pos rfl]
    exact ⟨rfl, h⟩
  rw [if_neg h1]
  by_cases h2 : a1 ≤ 14
  · rw [if_pos h2]
    obtain ⟨c, hc, rfl⟩ := nI_of2 (n := 14) (M := 14) (x := a1) rfl (fun q => h1 (Int32.lt_trans q (by decide))) h2
    have hc1 : 1 ≤ c := by
      rcases Nat.eq_zero_or_pos c with e | e
      · subst e; exact absurd (by decide) h1
      · exact e
    obtain ⟨f, fe, ye, z, x1, x2, x3, x4, x5⟩ := hn.out
    obtain ⟨t, ht1, ht2⟩ : ∃ t, (t = c ∨ (t < c ∧ n + t = 14)) ∧ n + t ≤ 14 := by
      by_cases e : n + c ≤ 14
      · exact ⟨c, Or.inl rfl, e⟩
      · exact ⟨14 - n, Or.inr ⟨by omega, by omega⟩, by omega⟩
    refine ⟨t + 1, p_deal0 hl hc t 0 (n, f, z) S (by omega) ht1 hs ht2 x1 (fun S1 hx1 hd1 => ?_)⟩
    have hs1 := hd1.sh hs
    have m1 : MA S1 n f fe ye z := x2.ag h14 (fun k _ => hd1.1 _ _ (by omega))
    unfold wpX8_deal
    dsimp only
    rw [p_in, bI_t ⟨show (1 : Int32) ≤ nI c from nI_le (a := 1) hc1 (by omega), h2⟩, if_neg (by decide)]
    refine ⟨t + 1, p_mdeal0 hl hc t 0 (n, f, z) S1 (by omega) ht1 hs1 ht2 m1 (fun S2 hx2 hd2 => ?_)⟩
    have e14 : (dK t (n, f, z)).1 ≤ 14 := by rw [dK_n]; exact ht2
    exact ⟨rfl, h.both hd1 hd2 (LR.of e14 (hx1.ag (fun r k q1 q2 => hd2.1 r k (by omega))) hx2 (dK_ok t (n, f, z) x3) x4 x5)⟩
  · rw [if_neg h2]
    unfold wpX8_deal
    dsimp only
    rw [p_in, bI_f (fun q => h2 q.2), if_pos rfl]
    exact ⟨rfl, h⟩
