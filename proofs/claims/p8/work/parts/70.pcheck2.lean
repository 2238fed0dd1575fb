/-! step check, the reference's side -/
theorem bA_jo {o o' : Option ((Nat → Int32) × Nat)} {A : LA} (h : ∀ l r ch, JF o' l r ch = JF o l r ch) : bA o' A = bA o A := by
  unfold bA
  rw [ptT_jo h]
theorem ckF_jo {fe : Int32} {o o' : Option ((Nat → Int32) × Nat)} {w : Nat} {V : Nat → Int32} (h : ∀ l r ch, JF o' l r ch = JF o l r ch) : ∀ (m i : Nat) (A : LA), ckF fe o' w V m i A = ckF fe o w V m i A := by
  intro m
  induction m with
  | zero => intro i A; rw [ckF, ckF]
  | succ m ih => intro i A; rw [ckF, ckF, ih, bA_jo h]
theorem p_mcheck {ln : Nat → Nat} {N : Nat} {S0 : HC} {fe : Int32} {o : Option ((Nat → Int32) × Nat)} {w sp : Nat} {V : Nat → Int32} {post : Int32 → HC → Prop} (hs0 : SH S0) (hl : LN ln) (hw : w ≤ 60) (hsp : sp ≤ 30) (hV : ∀ j, j < w → hI S0 90 j = V j) (ho : MW ln N S0 17 o) : ∀ (m i : Nat) (ye : Int32) (A : LA) (S : HC), i + m = sp → TM S0 S → A.1 ≤ 14 → VP A.1 A.2.1 → MA S A.1 A.2.1 fe ye A.2.2 → (∀ S', TM S0 S' → wpX8_copyAll ln S' 71 69 fun S => post (ckF fe o w V m i A) S) → LX8_check_80 ln post (m + 1) S 68 (nI w) (nI (2 * sp)) (nI (2 * i)) (nI i) := by
  intro m
  induction m with
  | zero =>
    intro i ye A S hi hd h14 hv hx h
    have hs := hd.sh hs0
    have e : i = sp := by omega
    subst e
    rw [LX8_check_80]
    dsimp only
    unfold BX8_check_181 BX8_check_208
    rw [lt_e, show (2 : Int32) * nI i = nI (2 * i) from pk_mul 2 i, if_pos (nI_le (by omega) (by omega)), sh68_2 hs, dn_e, sh68_0 hs, dn_e]
    have q := h S hd
    rw [ckF] at q
    by_cases e : 2 * i = w
    · simp only [if_pos e] at q
      simp only [if_pos (show nI (2 * i) = nI w by rw [e]), if_true]
      exact q
    · simp only [if_neg e] at q
      simp only [if_neg (show ¬ nI (2 * i) = nI w from fun u => e ((nI_eq (by omega) (by omega)).mp u)), lt_e, show (1 : Int32) + nI (2 * i) = nI (1 + 2 * i) from nI_add 1 _]
      exact q
  | succ m ih =>
    intro i ye A S hi hd h14 hv hx h
    have hs := hd.sh hs0
    have fl : ∀ (S1 : HC) (r : Nat), TM S0 S1 → (r = 2 * i ∨ r = 2 * i + 1) → (∀ S', TM S0 S' → wpX8_copyAll ln S' 71 69 fun S => post (nI (1 + r)) S) → LX8_check_80 ln post (m + 1) S1 68 (nI w) (nI (2 * sp)) (nI r) (nI (i + 1)) := fun S1 r d1 hr hq => by
      have hs1 := d1.sh hs0
      have q := hq S1 d1
      have fin : BX8_check_181 ln post S1 68 (nI w) (nI (2 * sp)) (nI r) := by
        unfold BX8_check_181 BX8_check_208
        rw [sh68_2 hs1, dn_e, sh68_0 hs1, dn_e]
        simp only [lt_e, if_neg (show ¬ nI r = nI (2 * sp) from fun u => by have := (nI_eq (by omega) (by omega)).mp u; omega), ite_self, show (1 : Int32) + nI r = nI (1 + r) from nI_add 1 _]
        exact q
      rw [LX8_check_80]
      dsimp only
      rw [lt_e, lt_e, show (2 : Int32) * nI (i + 1) = nI (2 * (i + 1)) from pk_mul 2 (i + 1), if_neg (show ¬ nI r = nI (2 * (i + 1)) from fun u => by have := (nI_eq (by omega) (by omega)).mp u; omega)]
      split
      · exact fin
      · exact fin
    rw [LX8_check_80]
    dsimp only
    rw [lt_e, lt_e, show (2 : Int32) * nI i = nI (2 * i) from pk_mul 2 i, if_neg (nI_ge (by omega) (by omega)), if_pos rfl]
    refine p_year hs hl hx h14 (fun S1 hx1 hd1 => ?_)
    have d1 := hd.tr hd1.tm
    have hs1 := d1.sh hs0
    obtain ⟨l1, l2, l3⟩ := yN_le (f := A.2.1) (fe := fe) (z := A.2.2) h14
    have hv1 := yF_ok (fe := fe) (z := A.2.2) hv
    rw [ckF] at h
    have bad : (¬ (2 * i < w ∧ V (2 * i) = nI (stA fe A).1)) → BX8_check_129 ln post (LX8_check_80 ln post (m + 1)) S1 68 (nI w) (nI (2 * sp)) (nI i) (nI (2 * i)) := fun q => by
      rw [if_neg q] at h
      unfold BX8_check_129 BX8_check_130 BX8_check_171 BX8_check_172
      simp only [lt_e, Int32.add_zero]
      rw [show (2 : Int32) * nI i = nI (2 * i) from pk_mul 2 i, nI_1, nI_1, if_neg (show ¬ nI (2 * i) = nI (2 * i + 1) from fun u => by have := (nI_eq (by omega) (by omega)).mp u; omega)]
      exact fl S1 (2 * i) d1 (Or.inl rfl) h
    by_cases q1 : 2 * i < w
    · rw [if_neg (nI_ge q1 (by omega)), sh68_32 hs1, dn_e, ln90 hl, al_e (by omega) (by decide), d1.1 90 _ (by decide) (by decide) (by decide) (by decide), hV _ q1, sh68_0 hs1, dn_e, ln69 hl, al_l1 (by decide) (by decide), hx1.1]
      by_cases q2 : V (2 * i) = nI (stA fe A).1
      · rw [if_pos (show V (2 * i) = nI (yN A.1 A.2.1 fe A.2.2) from q2)]
        rw [if_pos ⟨q1, q2⟩] at h
        unfold BX8_check_130
        simp only [lt_e]
        rw [show (2 : Int32) * nI i = nI (2 * i) from pk_mul 2 i, nI_1, if_pos rfl]
        have bad2 : ∀ S2, TM S0 S2 → (¬ (2 * i + 1 < w ∧ V (2 * i + 1) = bA o (stA fe A))) → BX8_check_171 ln post (LX8_check_80 ln post (m + 1)) S2 68 (nI w) (nI (2 * sp)) (nI i) (nI (2 * i + 1)) := fun S2 d2 q => by
          rw [if_neg q] at h
          unfold BX8_check_171 BX8_check_172
          simp only [lt_e, Int32.add_zero]
          rw [nI_1]
          exact fl S2 (2 * i + 1) d2 (Or.inr rfl) h
        by_cases q3 : 2 * i + 1 < w
        · rw [if_neg (nI_ge q3 (by omega)), sh68_32 hs1, dn_e, ln90 hl, al_e (by omega) (by decide), d1.1 90 _ (by decide) (by decide) (by decide) (by decide), hV _ q3]
          refine p_mallBear (ch := 0) hs1 hl ((ho.tm d1).mk hx1) hv1 l1 (by decide) (fun S2 c2 => ?_)
          have d2 := d1.tr c2.tm
          by_cases q4 : V (2 * i + 1) = bA o (stA fe A)
          · rw [if_pos ⟨q3, q4⟩] at h
            rw [if_pos (show V (2 * i + 1) = sumB (yF A.1 A.2.1 fe A.2.2) (ptT (yN A.1 A.2.1 fe A.2.2) (yF A.1 A.2.1 fe A.2.2) o (nI 0) (yN A.1 A.2.1 fe A.2.2)) 0 (yN A.1 A.2.1 fe A.2.2) from q4)]
            unfold BX8_check_172
            simp only [lt_e]
            rw [nI_1, nI_1]
            exact ih (i + 1) _ (stA fe A) S2 (by omega) d2 l1 hv1 (hx1.ag l1 (fun k _ => c2.1 _ _ (by decide) (by decide) (by decide))) h
          · rw [if_neg (show ¬ V (2 * i + 1) = sumB (yF A.1 A.2.1 fe A.2.2) (ptT (yN A.1 A.2.1 fe A.2.2) (yF A.1 A.2.1 fe A.2.2) o (nI 0) (yN A.1 A.2.1 fe A.2.2)) 0 (yN A.1 A.2.1 fe A.2.2) from q4)]
            exact bad2 S2 d2 (fun u => q4 u.2)
        · rw [if_pos (nI_le (by omega) (by omega))]
          exact bad2 S1 d1 (fun u => q3 u.1)
      · rw [if_neg (show ¬ V (2 * i) = nI (yN A.1 A.2.1 fe A.2.2) from q2)]
        exact bad (fun u => q2 u.2)
    · rw [if_pos (nI_le (by omega) (by omega))]
      exact bad (fun u => q1 u.1)
theorem s_check {N : Nat} {ln : Nat → Nat} {S : HC} (h : PI N ln S) (a1 : Int32) : wpX7_check ln S 0 a1 fun v S => wpX8_check ln S 68 a1 fun w S => OK N ln v w S := by
  obtain ⟨⟨hs, hl, hN1, hN2⟩, -, ⟨hi1, hi2⟩, -, -, -, ⟨w, w1, w2, w3, w4⟩, -⟩ := id h
  have hb : LB 17 := Or.inr (Or.inr (Or.inl rfl))
  have hP : PI N ln (sI (sI S 0 9 0) 68 33 0) := h.wai (fun _ _ => rfl) (fun r k q => by rw [hI_ne (by omega), hI_ne (by omega)]) ⟨0, by omega, by rw [hI_row (by decide), hI_self]; rfl, hI_self _ _ _ _, fun j hj => absurd hj (by omega)⟩
  have hs1 : SH (sI S 0 9 0) := hs.sI _ _ _
  unfold wpX7_check BX7_check_21
  rw [lt_e, lt_e]
  have bad : ¬ (1 ≤ a1 ∧ a1 ≤ 30) → wpX8_check ln (sI S 0 9 0) 68 a1 fun w S => OK N ln (-1000000001) w S := fun q => by
    unfold wpX8_check
    rw [lt_e, lt_e, p_in, bI_f q, if_pos rfl]
    exact ⟨rfl, hP⟩
  by_cases c1 : a1 < 1
  · rw [if_pos c1]; exact bad (fun q => absurd c1 (Int32.not_lt.mpr q.1))
  rw [if_neg c1]
  by_cases c2 : a1 ≤ 30
  · rw [if_pos c2, lt_e, hI_ne (by decide), hi1]
    have cin : 1 ≤ a1 ∧ a1 ≤ 30 := ⟨Int32.not_lt.mp c1, c2⟩
    by_cases c0 : hI S 68 3 = 0
    · rw [if_pos c0]
      unfold wpX8_check
      try dsimp only
      rw [lt_e, lt_e, p_in, bI_t cin, if_neg (by decide), lt_e, hI_ne (by decide), hI_row (by decide), if_pos c0]
      exact ⟨rfl, hP⟩
    · obtain ⟨i1, ⟨n, hn⟩, hw⟩ : hI S 68 3 = 1 ∧ (∃ n, LR S 9 70 n) ∧ LWR ln N S 9 70 := by
        rcases hi2 with q | q
        · exact absurd q c0
        · exact q
      obtain ⟨h14, a2, a3, a4, a5, ⟨a6, a6'⟩, ⟨a7, y, hy, ey⟩, a8⟩ := hn
      rw [if_neg c0, sh0_3 hs1, dn_e, sh0_1 hs1, dn_e]
      obtain ⟨c, hc, rfl⟩ := nI_of2 (n := 30) (M := 30) (x := a1) rfl (fun q => c1 (Int32.lt_trans q (by decide))) c2
      refine p_become hs1 hl hb (Or.inr (Or.inl rfl)) (by omega) (fun S3 f3 => ?_)
      have hs3 : SH S3 := hs1.sm f3.sm
      have e3 : ∀ r k, ¬ (17 ≤ r ∧ r ≤ 23) → r ≠ 0 → hI S3 r k = hI S r k := fun r k u1 u2 => by rw [f3.1 r k (by omega), hI_row u2]
      have r3 : ∀ r k, r ≠ 24 → hR S3 r k = hR S r k := fun r k u => by rw [f3.2.2.2.1 r k u]; rfl
      have x1 : XA (sI S 0 9 0) 9 n (mf S 70) (hI S 70 3) (hI S 70 2) (hI S 70 0) := ⟨by rw [hI_row (by decide)]; exact a2, fun k hk j hj => by rw [← a4 k hk j hj]; exact hI_row (by omega), by rw [hI_row (by decide)]; exact a6, by rw [hI_row (by decide)]; exact a7, by rw [hI_row (by decide)]; exact a8⟩
      have x3 := x1.bc h14 f3
      obtain ⟨mm, mm1, mm2, mm3, mm4⟩ := hw
      have t2 : hI S3 17 11 = nI mm := by rw [f3.2.2.1 11 (by omega), hI_row (by decide)]; exact mm2
      have t3 : hI S3 70 4 = nI mm := by rw [e3 _ _ (by omega) (by decide)]; exact mm3
      have t4 : ∀ t, t < mm → ∃ q key c, hR S3 (17 + 7) t = some q ∧ LAW ln N S3 q 70 t key c := fun t ht => by
        obtain ⟨q, key, c, q1, q2⟩ := mm4 t ht
        exact ⟨q, key, c, by rw [f3.2.2.2.2 t (by omega)]; exact q1, q2.ag (fun r k u => e3 r k (by omega) (by omega)) (fun r k u => r3 r k (by omega)) (fun k _ => e3 _ _ (by omega) (by decide))⟩
      obtain ⟨o, ho⟩ := MWr.ex (ln := ln) (N := N) (S := S3) (b := 17) (a := 70) ⟨mm, mm1, t2, t3, t4⟩
      rw [sh0_1 hs3, dn_e, lt_e, e3 9 8 (by omega) (by decide), a7, ey, lt_e, show (9999 : Int32) - nI y = nI (9999 - y) from pk_sub (a := 9999) hy, lt_e]
      obtain ⟨sp, hsp, esp⟩ : ∃ sp, sp ≤ 30 ∧ (if nI (9999 - y) < nI c then nI (9999 - y) else nI c) = nI sp ∧ (if nI (9999 - y) < 0 then (0 : Int32) else if nI c < nI (9999 - y) then nI c else nI (9999 - y)) = nI sp := by
        rw [if_neg (nI_pos (n := 9999 - y) (by omega))]
        by_cases e : 9999 - y < c
        · exact ⟨9999 - y, by omega, by rw [if_pos (nI_lt e (by omega))], by rw [if_neg (nI_nlt (by omega) (by omega))]⟩
        · refine ⟨c, by omega, by rw [if_neg (nI_nlt (by omega) (by omega))], ?_⟩
          by_cases e2 : c < 9999 - y
          · rw [if_pos (nI_lt e2 (by omega))]
          · rw [if_neg (nI_nlt (by omega) (by omega)), show 9999 - y = c by omega]
      rw [esp.1, w2]
      refine ⟨sp + 1, p_xcheck (V := hI S 43) hs3 hl w1 hsp (fun j _ => e3 _ _ (by omega) (by decide)) mm1 t2 t3 t4 ho sp 0 _ (n, mf S 70, hI S 70 0) S3 (by omega) (CS.rf _) h14 a5 x3 (fun S4 c4 => ?_)⟩
      have hs4 : SH S4 := hs3.sm c4.sm
      have e4 : ∀ r k, ¬ (17 ≤ r ∧ r ≤ 28) → r ≠ 0 → hI S4 r k = hI S r k := fun r k u1 u2 => by rw [c4.1 r k u1, e3 r k (by omega) u2]
      unfold wpX8_check
      try dsimp only
      rw [lt_e, lt_e, e4 68 33 (by omega) (by decide), w3, p_in, bI_t cin, if_neg (by decide), lt_e, hI_ne (by decide), e4 68 3 (by omega) (by decide), if_neg c0]
      have hs5 : SH (sI S4 68 33 0) := hs4.sI _ _ _
      rw [sh68_0 hs5, dn_e, sh68_2 hs5, dn_e]
      refine p_copyAll (ln69 hl) (ln71 hl) (by decide) (fun S6 f6 => ?_)
      have hs6 := f6.sh hs5
      rw [sh68_1 hs6, dn_e, sh68_0 hs6, dn_e]
      refine p_copyAll (ln70 hl) (ln69 hl) (by decide) (fun S7 f7 => ?_)
      have hs7 := f7.sh hs6
      have m7 : ∀ k, k < 1461 → hI S7 69 k = hI S 70 k := fun k hk => by rw [f7.i (by omega) hk, f6.o (by decide), hI_row (by decide), e4 70 k (by omega) (by decide)]
      have e7 : ∀ r k, r ≠ 69 → r ≠ 71 → ¬ (17 ≤ r ∧ r ≤ 28) → r ≠ 0 → ¬ (r = 68 ∧ k = 33) → hI S7 r k = hI S r k := fun r k u1 u2 u3 u4 u5 => by rw [f7.o u1, f6.o u2, hI_ne u5, e4 r k u3 u4]
      have r7 : ∀ r k, hR S7 r k = hR S4 r k := fun r k => by rw [f7.2, f6.2]; rfl
      rw [sh68_0 hs7, dn_e, ln69 hl, al_l2 (by decide) (by decide), m7 2 (by decide), ey, lt_e, show (9999 : Int32) - nI y = nI (9999 - y) from pk_sub (a := 9999) hy, p_mwithin, esp.2, lt_e, show (2 : Int32) * nI sp = nI (2 * sp) from pk_mul 2 sp]
      obtain ⟨o1, ho1, hj⟩ := MWr.cp (S' := S7) (b' := 17) (a' := 69) ho (fun r k u => by rw [e7 r k (by omega) (by omega) (by omega) (by omega) (by omega), e3 r k (by omega) (by omega)]) (fun r k u => by rw [r7, c4.2.2 r k (by omega)]) (fun k hk => by rw [m7 k hk, e3 70 k (by omega) (by decide)]) (fun k _ => by rw [r7, c4.2.2 _ k (by omega)])
      have x7 : MA S7 n (mf S 70) (hI S 70 3) (hI S 70 2) (hI S 70 0) := ⟨by rw [m7 1 (by decide)]; exact a3, fun k hk j hj => m7 _ (by omega), m7 3 (by decide), m7 2 (by decide), m7 0 (by decide)⟩
      refine ⟨sp + 1, p_mcheck (V := hI S 43) (o := o1) hs7 hl w1 hsp (fun j hj => by rw [e7 90 j (by decide) (by decide) (by omega) (by decide) (by omega), w4 j hj]) ho1 sp 0 _ (n, mf S 70, hI S 70 0) S7 (by omega) (TM.rf _) h14 a5 x7 (fun S8 d8 => ?_)⟩
      refine p_copyAll (ln71 hl) (ln69 hl) (by decide) (fun S9 f9 => ?_)
      rw [ckF_jo hj]
      refine ⟨rfl, hP.sm ⟨fun r k u => ?_, fun r k u1 u2 u3 => ?_⟩⟩
      · by_cases e : r = 69
        · subst e
          have e0 : hI (sI (sI S 0 9 0) 68 33 0) 69 k = hI S 69 k := by rw [hI_row (by decide), hI_row (by decide)]
          rw [e0]
          by_cases e2 : k < 1461
          · rw [f9.i (by omega) e2, d8.1 71 k (by decide) (by decide) (by decide) (by decide), f7.o (by decide), f6.i (by omega) e2, hI_row (by decide), e4 69 k (by omega) (by decide)]
          · rw [f9.x (by omega), d8.2.1 k (by omega), f7.x (by omega), f6.o (by decide), hI_row (by decide), e4 69 k (by omega) (by decide)]
        · unfold sc at u
          rw [f9.o e, d8.1 r k e (by omega) (by omega) (by omega), f7.o e, f6.o (by omega)]
          by_cases e2 : r = 68 ∧ k = 33
          · rw [e2.1, e2.2, hI_self, hI_self]
          · rw [hI_ne e2, hI_ne e2, c4.1 r k (by omega), f3.1 r k (by omega)]
      · rw [f9.2, d8.2.2, r7, c4.2.2 r k u1, f3.2.2.2.1 r k (by omega)]
        rfl
  · rw [if_neg c2]; exact bad (fun q => c2 q.2)
