/-! step behind -/
theorem s_behind {N : Nat} {ln : Nat → Nat} {S : HC} (h : PI N ln S) (a1 a2 : Int32) : wpX7_behind ln S 0 a1 a2 fun v S => wpX8_behind ln S 68 a1 a2 fun w S => OK N ln v w S := by
  obtain ⟨⟨hs, hl, -, -⟩, ⟨⟨n, hn⟩, hw⟩, -⟩ := id h
  have h14 := hn.1
  obtain ⟨f, fe, ye, z, x1, x2, x3, x4, y, hy, rfl⟩ := hn.out
  have no : ¬ ((0 ≤ a1 ∧ a1 ≤ 100) ∧ 0 ≤ a2 ∧ a2 ≤ 9) → wpX8_behind ln S 68 a1 a2 fun w S => OK N ln (-1000000001) w S := fun u => by
    unfold wpX8_behind BX8_behind_20
    rw [p_in]
    by_cases c1 : 0 ≤ a1 ∧ a1 ≤ 100
    · rw [bI_t c1, if_neg (by decide), p_in, bI_f (fun q => u ⟨c1, q⟩), if_pos rfl]
      exact ⟨rfl, h⟩
    · rw [bI_f c1, if_pos rfl]
      exact ⟨rfl, h⟩
  unfold wpX7_behind BX7_behind_20 wpX7_allBear wpX4_workOutAll
  by_cases c1 : a1 < 0
  · rw [if_pos c1]; exact no (fun q => absurd c1 (Int32.not_lt.mpr q.1.1))
  rw [if_neg c1]
  by_cases c2 : 100 < a1
  · rw [if_pos c2]; exact no (fun q => absurd c2 (Int32.not_lt.mpr q.1.2))
  rw [if_neg c2]
  by_cases c3 : a2 < 0
  · rw [if_pos c3]; exact no (fun q => absurd c3 (Int32.not_lt.mpr q.2.1))
  rw [if_neg c3]
  by_cases c4 : a2 ≤ 9
  · rw [if_pos c4]
    obtain ⟨c, hc, rfl⟩ := nI_of2 (n := 100) (M := 100) (x := a1) rfl c1 (Int32.not_lt.mp c2)
    obtain ⟨w, hw9, rfl⟩ := nI_of2 (n := 9) (M := 9) (x := a2) rfl c3 c4
    have hv := yK_ok (fe := fe) c (n, f, z) x3
    have h14' := (yK_le (fe := fe) c (n, f, z) h14).1
    have ref : ∀ (S3 : HC) (v : Int32) (o : Option ((Nat → Int32) × Nat)), Sm S S3 → (w = 0 → v = nI (yK fe c (n, f, z)).1) → (w = 1 → MW ln N S3 17 o ∧ v = nI (clI (yK fe c (n, f, z)).2.1 (fun ch => ptT (yK fe c (n, f, z)).1 (yK fe c (n, f, z)).2.1 o (nI ch) (yK fe c (n, f, z)).1) (yK fe c (n, f, z)).1)) → (∀ ch, w = 2 + ch → MW ln N S3 17 o ∧ v = sumB (yK fe c (n, f, z)).2.1 (ptT (yK fe c (n, f, z)).1 (yK fe c (n, f, z)).2.1 o (nI ch) (yK fe c (n, f, z)).1) ch (yK fe c (n, f, z)).1) → wpX8_behind ln S3 68 (nI c) (nI w) fun w S => OK N ln v w S := by
      intro S3 v o s3 v0 v1 v2
      have hs3 := hs.sm s3
      unfold wpX8_behind
      rw [p_in, bI_t ⟨nI_pos' (by omega), show nI c ≤ 100 from nI_le (b := 100) hc (by decide)⟩, if_neg (by decide), p_in, bI_t ⟨nI_pos' (by omega), c4⟩, if_neg (by decide)]
      refine p_thinks hs3 hl (fun S4 f4 => ?_)
      have hs4 := f4.sh hs3
      refine p_goesOn (A := (n, f, z)) hl (by omega) hs4 h14 ((x2.sm h14 s3).fl h14 f4) (fun S5 m5 d5 => ?_)
      have hs5 := d5.sh hs4
      unfold BX8_behind_64
      have fin : ∀ S6, TM S4 S6 → wpX8_putsBack ln S6 68 fun S => OK N ln v v S := fun S6 t6 => p_putsBack (t6.sh hs4) hl (fun S7 f7 => ⟨rfl, h.sm (TM.back s3 f4 t6 f7)⟩)
      by_cases e0 : w = 0
      · subst e0
        rw [if_pos (show nI 0 = 0 from rfl), sh68_0 hs5, dn_e, ln69 hl, al_l1 (by decide) (by decide), m5.1, ← v0 rfl]
        exact fin S5 d5.tm
      rw [if_neg (nI_ne0 (by omega) (by omega))]
      by_cases e1 : w = 1
      · subst e1
        rw [if_pos (show nI 1 = 1 from rfl)]
        obtain ⟨q1, q2⟩ := v1 rfl
        refine p_mclashes hs5 hl (((q1.fl f4).tm d5.tm).mk m5) hv h14' (fun S6 c6 => ?_)
        rw [← q2]
        exact fin S6 (d5.tm.tr c6.tm)
      rw [if_neg (show ¬ nI w = 1 from fun q => e1 ((nI_eq (b := 1) (by omega) (by decide)).mp q)), lt_e, show nI w - 2 = nI (w - 2) from pk_sub (b := 2) (by omega)]
      obtain ⟨q1, q2⟩ := v2 (w - 2) (by omega)
      refine p_mallBear hs5 hl (((q1.fl f4).tm d5.tm).mk m5) hv h14' (by omega) (fun S6 c6 => ?_)
      rw [← q2]
      exact fin S6 (d5.tm.tr c6.tm)
    refine p_think hs hl (by omega) x1 h14 (fun S2 ye2 hx2 s2 t11 t24 => ?_)
    have hs2 := hs.sm s2
    obtain ⟨m, m1, m2, m3, m4⟩ := hw.th s2 t11 t24
    by_cases e0 : w = 0
    · subst e0
      rw [if_pos (show nI 0 = 0 from rfl), sh0_3 hs2, dn_e, lt_e, hx2.1]
      exact ref S2 _ none s2 (fun _ => rfl) (fun u => absurd u (by decide)) (fun ch u => absurd u (by omega))
    rw [if_neg (nI_ne0 (by omega) (by omega))]
    by_cases e1 : w = 1
    · subst e1
      rw [if_pos (show nI 1 = 1 from rfl), sh0_4 hs2, dn_e, sh0_3 hs2, dn_e]
      refine p_look2 hs2 hl (Or.inr (Or.inr (Or.inl rfl))) hx2.1 hx2.2.1 h14' m1 m2 m3 m4 (fun S3 o k3 w3 g1 g2 => ?_)
      have s3 := s2.tr (look_sm g1 g2)
      have hs3 := hs.sm s3
      refine p_allOut hs3 hl (Or.inr (Or.inr (Or.inl rfl))) k3 hv h14' (fun S4 w4 => ?_)
      have s4 := s3.tr (wo_sm w4.1 w4.2.2)
      have hs4 := hs.sm s4
      rw [sh0_4 hs4, dn_e]
      refine p_clashes hs4 hl (Or.inr (Or.inr (Or.inl rfl))) (k3.ag (Or.inr (Or.inr (Or.inl rfl))) w4.1 w4.2.2) h14' w4.2.1 (fun ch j => ptT_ok _ j) (fun S5 q1 q2 => ?_)
      exact ref S5 _ o (s4.tr (wo_sm (fun q k _ _ => q1 q k) q2)) (fun u => absurd u (by decide)) (fun _ => ⟨(w3.wo w4.1 w4.2.2).wo (fun q k _ _ => q1 q k) q2, rfl⟩) (fun ch u => absurd u (by omega))
    rw [if_neg (show ¬ nI w = 1 from fun q => e1 ((nI_eq (b := 1) (by omega) (by decide)).mp q)), sh0_3 hs2, dn_e, lt_e, show nI w - 2 = nI (w - 2) from pk_sub (b := 2) (by omega), sh0_4 hs2, dn_e]
    refine p_look2 hs2 hl (Or.inr (Or.inr (Or.inl rfl))) hx2.1 hx2.2.1 h14' m1 m2 m3 m4 (fun S3 o k3 w3 g1 g2 => ?_)
    have s3 := s2.tr (look_sm g1 g2)
    have hs3 := hs.sm s3
    rw [sh0_4 hs3, dn_e]
    refine p_workOut hs3 hl (Or.inr (Or.inr (Or.inl rfl))) k3 hv h14' (show w - 2 < 8 by omega) (fun S4 w4 => ?_)
    have s4 := s3.tr (wo_sm w4.1 w4.2.2.2)
    have hs4 := hs.sm s4
    rw [sh0_4 hs4, dn_e]
    refine p_together hs4 hl (Or.inr (Or.inr (Or.inl rfl))) (k3.ag (Or.inr (Or.inr (Or.inl rfl))) w4.1 w4.2.2.2) h14' (by omega) w4.2.2.1 ?_
    exact ref S4 _ o s4 (fun u => absurd u e0) (fun u => absurd u e1) (fun ch u => by
      have e : ch = w - 2 := by omega
      subst e
      exact ⟨w3.wo w4.1 w4.2.2.2, rfl⟩)
  · rw [if_neg c4]; exact no (fun q => c4 q.2.2)
