/-! step text -/
theorem kd_odd {N : Nat} (h1 : 91 ≤ N) (h2 : N % 2 = 1) : kd N = 9 ∧ kd (N + 1) = 1 := by
  unfold kd
  rw [if_neg (by omega), if_pos h2, if_neg (by omega), if_neg (by omega)]
  exact ⟨rfl, rfl⟩
theorem c_law {N : Nat} {ln : Nat → Nat} {S : HC} {c : Nat} {key lv : Int32} {post : Nat → Nat → (Nat → Nat) → HC → Prop} (hs : SH S) (hl : LN ln) (h1 : 91 ≤ N) (h2 : N % 2 = 1) (hc : c ≤ 96) (h6 : hI S 37 6 = nI c) (h4 : hI S 37 4 = key) (h7 : hI S 37 7 = lv) (h : ∀ S', (∀ r i, r < N → hI S' r i = hI S r i) → (∀ r i, r < N → hR S' r i = hR S r i) → (∀ i, i < c → hI S' N i = hI S 40 i) → hI S' (N + 1) 0 = key → hI S' (N + 1) 1 = lv → hR S' (N + 1) 2 = some N → post (N + 1) (N + 2) (va_up ln N c) S') : wpX2_lawRead N ln S 37 post := by
  have kd := kd_odd h1 h2
  unfold wpX2_lawRead
  rw [lt_e, h6]
  refine ⟨kd.1, ⟨nI_pos (by omega), by rw [nI_clamp (by omega)]; exact hc⟩, ?_⟩
  rw [nI_clamp (by omega)]
  have lN : va_up ln N c N = c := va_up_self _ _ _
  have hl' : LN (va_up ln N c) := hl.up h1
  have hs1 : SH (nw S N) := hs.nw h1
  have key2 : ∀ q i S', i + q = c → Fl (nw S N) S' N 0 i (hI S 40) → LX2_lawRead_9 post (q + 1) (N + 1) (va_up ln N c) S' 37 N (nI i) := by
    intro q
    induction q with
    | zero =>
      intro i S' hi hF
      have e : i = c := by omega
      subst e
      have e6 : hI S' 37 6 = nI i := by rw [hF.o (by omega), hI_nw (by omega)]; exact h6
      rw [LX2_lawRead_9]
      dsimp only
      rw [lt_e, e6, if_pos (nI_le (by omega) (by omega))]
      unfold BX2_lawRead_38
      refine ⟨kd.2, ?_⟩
      have e4 : hI (nw S' (N + 1)) 37 4 = key := by rw [hI_nw (by omega), hF.o (by omega), hI_nw (by omega)]; exact h4
      have e7 : hI (nw S' (N + 1)) 37 7 = lv := by rw [hI_nw (by omega), hF.o (by omega), hI_nw (by omega)]; exact h7
      dsimp only
      rw [lt_e, e4, lt_e, e7]
      unfold wpX1_init
      rw [lt_e, lt_e, lt_e]
      refine h _ (fun r j u => ?_) (fun r j u => ?_) (fun j u => ?_) ?_ ?_ ?_
      · rw [hI_sR, hI_row (by omega), hI_row (by omega), hI_nw (by omega), hF.o (by omega), hI_nw (by omega)]
      · rw [hR_sR, if_neg (by omega), hR_sI, hR_sI, hR_nw (by omega), hF.2, hR_nw (by omega)]
      · rw [hI_sR, hI_row (by omega), hI_row (by omega), hI_nw (by omega), hF.i (by omega) u]
      · rw [hI_sR, hI_ne (by omega), hI_self]
      · rw [hI_sR, hI_self]
      · rw [hR_sR, if_pos ⟨rfl, rfl⟩]
    | succ q ih =>
      intro i S' hi hF
      have e6 : hI S' 37 6 = nI c := by rw [hF.o (by omega), hI_nw (by omega)]; exact h6
      rw [LX2_lawRead_9]
      dsimp only
      rw [lt_e, e6, if_neg (nI_ge (by omega) (by omega)), if_neg (show ¬ (96 : Int32) ≤ nI i from nI_ge (b := 96) (by omega) (by decide)), sh37_5 (hF.sh hs1), dn_e, ln40 hl', al_e (by omega) (by decide), lN, as_e (by omega) (by omega), lt_e, nI_1]
      exact ih (i + 1) _ (by omega) (hF.step (by omega) (by rw [hF.o (by omega), hI_nw (by omega)]))
  exact ⟨c + 1, key2 c 0 _ (by omega) (Fl.rf _ _ _ _)⟩
theorem s_text {N : Nat} {ln : Nat → Nat} {S : HC} {R : Int32 → Int32 → Nat → (Nat → Nat) → HC → Prop} (h : PI N ln S) (hR0 : ∀ v N' ln' S', PI N' ln' S' → R v v N' ln' S') : wpX7_text N ln S 0 fun v N1 ln1 S1 => wpX8_text ln1 S1 68 fun w S2 => R v w N1 ln1 S2 := by
  obtain ⟨⟨hs, hl, hN1, hN2⟩, ⟨-, hw⟩, -, ⟨k, k1, k2, k3, k4⟩, -, -, -, b7⟩ := id h
  obtain ⟨t, ht⟩ : ∃ t : Nat → Nat, ∀ j, j < k → hI S 74 j = nI (t j) ∧ t j < 256 := ⟨fun j => ixN (hI S 74 j), fun j hj => by
    obtain ⟨c, hc, e⟩ := (k4 j hj).2
    dsimp only
    rw [e, ixN_e (by omega)]
    exact ⟨rfl, hc⟩⟩
  have tp : TP S t k := ⟨k1, k2, fun j hj => ⟨(k4 j hj).1.trans (ht j hj).1, (ht j hj).2⟩⟩
  have tm : TPm S t k := ⟨k1, k3, ht⟩
  obtain ⟨m, m1, m2, m3, m4⟩ := hw
  have P0 : PI N ln (sI (sI S 38 1 0) 68 7 0) := h.tap (fun _ _ => rfl) (fun r i u => by rw [hI_ne (by omega), hI_ne (by omega)]) ⟨0, by decide, by rw [hI_row (by decide), hI_self]; rfl, hI_self _ _ _ _, fun j hj => absurd hj (by omega)⟩
  -- what stays when nothing was added
  have stay : ∀ S1 S3, FR S S1 → FX (sI S1 38 1 0) S3 → PI N ln (sI S3 68 7 0) := fun S1 S3 f1 x3 => P0.sm ⟨fun r i u => by
    unfold sc at u
    by_cases e : r = 68 ∧ i = 7
    · rw [e.1, e.2, hI_self, hI_self]
    · rw [hI_ne e, hI_ne e, x3.1 r i (by omega) (by omega) (by omega) (by omega)]
      by_cases e2 : r = 38 ∧ i = 1
      · rw [e2.1, e2.2, hI_self, hI_self]
      · rw [hI_ne e2, hI_ne e2, f1.1 r i (by omega) (by omega)], fun r i _ _ _ => by rw [hR_sI, x3.2, hR_sI, f1.2]; rfl⟩
  unfold wpX7_text
  rw [sh0_5 hs, dn_e]
  refine c_read hs hl tp (fun S1 key cc lv f1 s1 hk3 gd ⟨e10, e4, e7⟩ ⟨e6, e40⟩ hg hwf c96 => ?_) (fun S1 f f1 s1 e10 f96 fl => ?_)
  · have s2 : SH (sI S1 38 1 0) := s1.sI _ _ _
    have o2 : ∀ r i, r ≠ 37 → r ≠ 40 → ¬ (r = 38 ∧ i = 1) → hI (sI S1 38 1 0) r i = hI S r i := fun r i u1 u2 u3 => by rw [hI_ne u3, f1.1 r i u1 u2]
    have e11 : hI (sI S1 38 1 0) 1 11 = nI m := by rw [o2 1 11 (by decide) (by decide) (by omega)]; exact m2
    rw [sh0_5 s1, dn_e, sh37_0 s1, dn_e, lt_e, sh0_5 s2, dn_e, lt_e, hI_row (by decide), e10, if_pos (by decide), sh0_0 s2, dn_e, lt_e, e11, if_neg (nI_pos (by omega)), dn_e, lt_e, e11]
    by_cases cm : m < 14
    · rw [if_pos (show nI m < 14 from nI_lt (b := 14) cm (by decide)), dn_e, lt_e, e11, dn_e, sh1_10 s2, dn_e, dn_e]
      refine c_law (key := nI key) (lv := nI lv) s2 hl hN1 hN2 c96 (by rw [hI_row (by decide)]; exact e6) (by rw [hI_row (by decide)]; exact e4) (by rw [hI_row (by decide)]; exact e7) (fun S3 i3 r3 n3 k30 k31 r32 => ?_)
      have hl' : LN (va_up ln N cc.length) := hl.up hN1
      have s3 : SH S3 := s2.of (fun q hq => by
        have h1 := of_decide_eq_true (List.all_eq_true.mp RT_lt q hq)
        exact r3 _ _ (by omega))
      rw [ln8 hl', as_e cm (by decide)]
      have s4 : SH (sR S3 8 m (some (N + 1))) := s3.lw (b := 1) (Or.inl rfl) (fun r i u => by rw [hR_sR, if_neg (fun v => u v.1)])
      rw [sh0_0 s4, dn_e, lt_e, nI_1, lt_e]
      have s5 : SH (sI (sR S3 8 m (some (N + 1))) 1 11 (nI (m + 1))) := s4.sI _ _ _
      have o5 : ∀ r i, r < N → r ≠ 37 → r ≠ 40 → ¬ (r = 38 ∧ i = 1) → ¬ (r = 1 ∧ i = 11) → hI (sI (sR S3 8 m (some (N + 1))) 1 11 (nI (m + 1))) r i = hI S r i := fun r i u0 u1 u2 u3 u4 => by rw [hI_ne u4, hI_sR, i3 r i u0, o2 r i u1 u2 u3]
      refine r_text s5 hl' (tm.ag (fun r i u => o5 r i (by omega) (by omega) (by omega) (by omega) (by omega))) (b7.ag (fun r i u => o5 r i (by omega) (by omega) (by omega) (by omega) (by omega))) (fun S6 f x6 fl _ => absurd fl (fun u => res_gf (c := cc.map trS) gd hk3 u)) (fun S6 key' c' a' x6 hk' gd' cd6 l6 e13 => ?_)
      obtain ⟨q1, q2, q3⟩ := res_gg (c := cc.map trS) gd gd'
      subst q1
      subst q2
      subst q3
      have el : (cc.map trS).length = cc.length := List.length_map _
      have s6 := x6.sh s5
      have s7 : SH (sI S6 68 7 0) := s6.sI _ _ _
      have e69 : hI (sI S6 68 7 0) 69 4 = nI m := by rw [hI_row (by decide), x6.1 69 4 (by decide) (by decide) (by decide) (by omega), o5 69 4 (by omega) (by omega) (by omega) (by omega) (by omega)]; exact m3
      unfold BX8_text_33
      rw [lt_e, if_neg (by decide), sh68_0 s7, dn_e, ln69 hl', al_l4 (by decide) (by decide), e69, if_neg (show ¬ nI m = 14 from fun u => by have := (nI_eq (b := 14) (by omega) (by decide)).mp u; omega), dn_e, ln69 hl', al_l4 (by decide) (by decide), e69, dn_e]
      simp only [lt_e]
      rw [show (2 : Int32) * nI m = nI (2 * m) from pk_mul 2 m, show (89 : Int32) + nI (2 * m) = nI (89 + 2 * m) from nI_add 89 _, hI_ne (by decide), e13, hI_ne (by decide), cd6.1, el, show (1000 : Int32) * nI key' = nI (1000 * key') from pk_mul 1000 _, nI_add, ln69 hl', as_e (by omega) (by decide), sh68_0 (s7.sI _ _ _), dn_e, nI_1, hI_row (by decide), hI_ne (by decide), cd6.2.2, ln69 hl', as_e (by omega) (by decide)]
      have s9 : SH (sI (sI (sI S6 68 7 0) 69 (89 + 2 * m) (nI (1000 * key' + cc.length))) 69 (89 + 2 * m + 1) (nI a')) := (s7.sI _ _ _).sI _ _ _
      refine r_store s9 hl' cm c96 (by rw [hI_row (by decide), hI_row (by decide), hI_ne (by decide), cd6.1, el]) (by rw [hI_ne (by omega), hI_ne (by omega)]; exact e69) (fun S10 f10 => ?_)
      have n6 : ∀ r i, r = N ∨ r = N + 1 → hI S6 r i = hI S3 r i := fun r i u => by rw [x6.1 r i (by omega) (by omega) (by omega) (by omega), hI_row (by omega), hI_sR]
      have a10 : ∀ r i, r ≠ 69 → hI (sI S10 69 4 (nI (m + 1))) r i = hI (sI S6 68 7 0) r i := fun r i u => by rw [hI_row u, f10.o u, hI_row u, hI_row u]
      have b10 : ∀ i, i ≠ 4 → i ≠ 89 + 2 * m → i ≠ 90 + 2 * m → ¬ (117 + 96 * m ≤ i ∧ i < 117 + 96 * m + cc.length) → hI (sI S10 69 4 (nI (m + 1))) 69 i = hI S6 69 i := fun i u1 u2 u3 u4 => by rw [hI_ne (by omega), f10.x u4, hI_ne (by omega), hI_ne (by omega), hI_row (by decide)]
      refine hR0 _ _ _ _ (h.law (m := m) (key := key') (lv := a') (cc := cc) cm m2 hk3 c96 hg hwf (fun r i u0 u1 u2 u3 u4 u5 u6 u7 u8 u9 => ?_) ⟨?_, ?_, ?_, hI_self _ _ _ _⟩ ⟨?_, ?_, fun i hi => ?_⟩ ⟨fun i hi => ?_, ?_, ?_⟩ (fun r i u0 u1 => ?_) ⟨?_, ?_⟩)
      · by_cases e : r = 69
        · subst e
          rw [b10 i (by omega) (by omega) (by omega) (by omega), x6.1 69 i (by decide) (by decide) (by decide) (by omega), o5 69 i u0 u1 u2 u6 u7]
        · rw [a10 r i e, hI_ne (by omega), x6.1 r i u3 u4 u5 (by omega), o5 r i u0 u1 u2 u6 u7]
      · rw [a10 _ _ (by decide), hI_row (by decide), x6.1 38 1 (by decide) (by decide) (by decide) (by omega), hI_row (by decide), hI_sR, i3 38 1 (by omega), hI_self]
      · rw [a10 _ _ (by decide), hI_self]
      · rw [a10 _ _ (by decide), hI_row (by decide), x6.1 1 11 (by decide) (by decide) (by decide) (by omega), hI_self]
      · rw [hI_ne (by omega), f10.x (by omega), hI_ne (by omega), hI_self]
      · rw [hI_ne (by omega), f10.x (by omega), show 90 + 2 * m = 89 + 2 * m + 1 by omega, hI_self]
      · rw [hI_ne (by omega), f10.i (by omega) (by omega), hI_row (by decide), hI_row (by decide), hI_row (by decide), show 117 + 96 * m + i - (117 + 96 * m) = i by omega]
        exact cd6.2.1 i (by omega)
      · rw [a10 _ _ (by omega), hI_row (by omega), n6 N i (Or.inl rfl), n3 i hi, hI_row (by decide)]
        exact e40 i hi
      · rw [a10 _ _ (by omega), hI_row (by omega), n6 _ _ (Or.inr rfl)]
        exact k30
      · rw [a10 _ _ (by omega), hI_row (by omega), n6 _ _ (Or.inr rfl)]
        exact k31
      · rw [hR_sI, f10.2, hR_sI, hR_sI, hR_sI, x6.2, hR_sI, hR_sR, if_neg u1, r3 r i u0, hR_sI, f1.2]
      · rw [hR_sI, f10.2, hR_sI, hR_sI, hR_sI, x6.2, hR_sI, hR_sR, if_pos ⟨rfl, rfl⟩]
      · rw [hR_sI, f10.2, hR_sI, hR_sI, hR_sI, x6.2, hR_sI, hR_sR, if_neg (by omega)]
        exact r32
    · have em : m = 14 := by omega
      subst em
      rw [if_neg (by decide)]
      unfold BX7_text_61
      refine r_text s2 hl (tm.ag (fun r i u => o2 r i (by omega) (by omega) (by omega))) (b7.ag (fun r i u => o2 r i (by omega) (by omega) (by omega))) (fun S6 f x6 fl _ => absurd fl (fun u => res_gf (c := cc.map trS) gd hk3 u)) (fun S6 key' c' a' x6 hk' gd' cd6 l6 e13 => ?_)
      have s6 := x6.sh s2
      have e69 : hI (sI S6 68 7 0) 69 4 = nI 14 := by rw [hI_row (by decide), x6.1 69 4 (by decide) (by decide) (by decide) (by omega), o2 69 4 (by omega) (by omega) (by omega)]; exact m3
      unfold BX8_text_33
      rw [lt_e, if_neg (by decide), sh68_0 (s6.sI _ _ _), dn_e, ln69 hl, al_l4 (by decide) (by decide), e69, if_pos (by decide)]
      exact hR0 _ _ _ _ (stay S1 S6 f1 x6)
  · have s2 : SH (sI S1 38 1 0) := s1.sI _ _ _
    have o2 : ∀ r i, r ≠ 37 → r ≠ 40 → ¬ (r = 38 ∧ i = 1) → hI (sI S1 38 1 0) r i = hI S r i := fun r i u1 u2 u3 => by rw [hI_ne u3, f1.1 r i u1 u2]
    rw [sh0_5 s1, dn_e, sh37_0 s1, dn_e, lt_e, sh0_5 s2, dn_e, lt_e, hI_row (by decide), e10, if_neg (nI_pos (by omega)), dn_e, lt_e, hI_row (by decide), e10, lt_e]
    refine r_text s2 hl (tm.ag (fun r i u => o2 r i (by omega) (by omega) (by omega))) (b7.ag (fun r i u => o2 r i (by omega) (by omega) (by omega))) (fun S6 f' x6 fl' p6 => ?_) (fun S6 key' c' a' x6 hk' gd' cd6 l6 e13 => absurd fl (fun u => res_gf gd' hk' u))
    have ef := res_ff fl fl'
    subst ef
    unfold BX8_text_33
    rw [lt_e, if_pos rfl, lt_e, hI_ne (by decide), p6, lt_e]
    exact hR0 _ _ _ _ (stay S1 S6 f1 x6)
