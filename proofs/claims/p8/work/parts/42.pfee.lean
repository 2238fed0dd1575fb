/-! steps: fee, fine -/
theorem p_worksOut {ln : Nat → Nat} {N : Nat} {S : HC} {q t key c : Nat} {a b e : Int32} {post : Int32 → HC → Prop} (hs : SH S) (hl : LN ln) (ht : t < 14) (hw : LAW ln N S q 69 t key c) (f0 : hI S 81 0 = a) (f1 : hI S 81 1 = b) (f2 : key = 0 → hI S 81 2 = e) (h : ∀ S', SX 80 S S' (evF a b e (fun i => hI S 69 (117 + 96 * t + i)) c 0 (hI S 80) 0) → post (evF a b e (fun i => hI S 69 (117 + 96 * t + i)) c 0 (hI S 80) 0 0) S') : wpX8_worksOut ln S 68 (nI t) post := by
  obtain ⟨⟨q1, q2⟩, q3, ⟨q4, q5, q6⟩, ⟨q7, -⟩, q8, -, q9, q10, q11⟩ := hw
  generalize hcd : (fun i => hI S 69 (117 + 96 * t + i)) = cd at *
  have hcd' : ∀ i, hI S 69 (117 + 96 * t + i) = cd i := fun i => by rw [← hcd]
  have kk : ∀ n i d st S', i + n = c → d ≤ i → (∃ d', wfC cd n i d = some d') → SX 80 S S' st → (∀ S', SX 80 S S' (evF a b e cd n i st d) → post (evF a b e cd n i st d 0) S') → LX8_worksOut_21 ln post (n + 1) S' 68 (nI t) (nI d) (nI c) (nI i) := by
    intro n
    induction n with
    | zero =>
      intro i d st S' hi hd hf hx hp
      rw [LX8_worksOut_21]
      dsimp only
      rw [if_pos (nI_le (by omega) (by omega)), sh68_22 (hx.sh hs), dn_e, ln80 hl, al_l0 (by decide) (by decide), hx.1]
      rw [evF] at hp
      exact hp S' hx
    | succ n ih =>
      intro i d st S' hi hd ⟨d', hf⟩ hx hp
      have hs' := hx.sh hs
      obtain ⟨d2, w1, w2⟩ := wfC_s hf
      rw [evF] at hp
      rw [LX8_worksOut_21]
      dsimp only
      unfold BX8_worksOut_115 BX8_worksOut_78 BX8_worksOut_149
      rw [if_neg (nI_ge (by omega) (by omega)), sh68_0 hs', dn_e]
      simp only [lt_e, sh68_22 hs', sh68_23 hs', dn_e, ln80 hl, ln81 hl]
      rw [show (96 : Int32) * nI t = nI (96 * t) from pk_mul 96 t, show (117 : Int32) + nI (96 * t) = nI (117 + 96 * t) from nI_add 117 (96 * t), nI_add, ln69 hl, al_e (by omega) (by decide), hx.2.1 69 _ (by decide), hcd', nI_1, nI_1]
      rcases wfS_c w1 with ⟨c1, c2, rfl⟩ | ⟨c1, c2, c3, rfl⟩ | ⟨c1, c2, c3, rfl⟩
      · rw [if_pos c1] at hp
        rw [if_neg (Int32.not_lt.mpr c1)]
        by_cases g : 10000 ≤ cd i
        · rw [if_pos g]
          have g2 : cd i = 10000 ∨ cd i = 10001 ∨ cd i = 10002 := by
            simp only [i_le, i_eq] at g c2 ⊢
            have : (10000 : Int32).toInt = 10000 := rfl
            have : (10001 : Int32).toInt = 10001 := rfl
            have : (10002 : Int32).toInt = 10002 := rfl
            omega
          have lv : hI S' 81 ((cd i).toInt.toNat - 10000) = lf3 a b e (cd i) ∧ cd i - 10000 = nI ((cd i).toInt.toNat - 10000) ∧ (cd i).toInt.toNat - 10000 < 4 := by
            rcases g2 with g2 | g2 | g2
            · rw [g2]; exact ⟨by rw [hx.2.1 81 _ (by decide)]; exact f0, by decide, by decide⟩
            · rw [g2]; exact ⟨by rw [hx.2.1 81 _ (by decide)]; exact f1, by decide, by decide⟩
            · have u := (q11 i (by omega)).2
              rw [hcd', g2] at u
              have k0 : key = 0 := by
                rcases Nat.eq_zero_or_pos key with k0 | k0
                · exact k0
                · exact absurd (u k0) (by decide)
              rw [g2]
              exact ⟨by rw [hx.2.1 81 _ (by decide)]; exact f2 k0, by decide, by decide⟩
          rw [lv.2.1, al_e lv.2.2 (by decide), lv.1, as_e (by omega) (by decide)]
          exact ih (i + 1) (d + 1) _ _ (by omega) (by omega) ⟨d', w2⟩ (hx.up d _) hp
        · have g3 : lf3 a b e (cd i) = cd i := by
            unfold lf3
            rw [if_neg (fun u => g (by rw [u]; decide)), if_neg (fun u => g (by rw [u]; decide)), if_neg (fun u => g (by rw [u]; decide))]
          rw [if_neg g, as_e (by omega) (by decide)]
          rw [g3] at hp
          exact ih (i + 1) (d + 1) _ _ (by omega) (by omega) ⟨d', w2⟩ (hx.up d _) hp
      · rw [if_neg c1, if_pos c2] at hp
        rw [if_pos (Int32.not_le.mp c1), if_pos c2, dsub1 c3, al_e (by omega) (by decide), hx.1]
        by_cases z : st (d2 - 1) = 0
        · rw [if_pos z] at hp
          rw [if_pos z, as_e (by omega) (by decide)]
          exact ih (i + 1) d2 _ _ (by omega) (by omega) ⟨d', w2⟩ (hx.up _ _) hp
        · rw [if_neg z] at hp
          rw [if_neg z, as_e (by omega) (by decide)]
          exact ih (i + 1) d2 _ _ (by omega) (by omega) ⟨d', w2⟩ (hx.up _ _) hp
      · rw [if_neg c1, if_neg c2] at hp
        rw [if_pos (Int32.not_le.mp c1), if_neg c2, addm1, dsub1 (by omega), dsub1 (show 1 ≤ d - 1 by omega), show d - 1 - 1 = d - 2 by omega, al_e (by omega) (by decide), al_e (by omega) (by decide), p_two, hx.1, hx.1, as_e (by omega) (by decide)]
        exact ih (i + 1) (d - 1) _ _ (by omega) (by omega) ⟨d', w2⟩ (hx.up _ _) hp
  unfold wpX8_worksOut
  rw [sh68_0 hs, dn_e]
  simp only [lt_e]
  rw [show (2 : Int32) * nI t = nI (2 * t) from pk_mul 2 t, show (89 : Int32) + nI (2 * t) = nI (89 + 2 * t) from nI_add 89 (2 * t), ln69 hl, al_e (by omega) (by decide), ne_e (by decide), q8, show (1000 : Int32) = nI 1000 from rfl, rem_e (by omega) (by decide) (by decide), show (1000 * key + c) % 1000 = c by omega]
  exact ⟨c + 1, kk c 0 0 (hI S 80) S (by omega) (Nat.le_refl _) ⟨1, q10⟩ ⟨fun _ => rfl, fun _ _ _ => rfl, fun _ _ => rfl⟩ h⟩
theorem s_fee {N : Nat} {ln : Nat → Nat} {S : HC} (h : PI N ln S) : wpX7_fee ln S 0 fun v S => wpX8_fee ln S 68 fun w S => OK N ln v w S := by
  obtain ⟨⟨hs, hl, -, -⟩, ⟨⟨n, hn⟩, m, m1, m2, m3, m4⟩, -⟩ := id h
  unfold wpX7_fee wpX0_lawFor
  rw [sh0_0 hs, dn_e]
  refine p_lastLaw (key := 1) hs hl (Or.inl rfl) (by decide) m1 m2 m4 ?_
  rcases lastL_ok (ksM S 69) 1 m with e | ⟨t, t1, t2, t3⟩
  · rw [e, if_neg (by decide)]
    dsimp only
    rw [cO_n, sh0_0 hs, dn_e, lt_e, hn.2.1]
    unfold wpX8_fee
    dsimp only
    refine p_counts (key := 1) hs hl (by decide) m1 m3 m4 ?_
    rw [e, sh68_23 hs, dn_e, sh68_0 hs, dn_e, ln69 hl, al_l2 (by decide) (by decide), ln81 hl, as_l0 (by decide) (by decide), sh68_23 (hs.sI _ _ _), dn_e, sh68_0 (hs.sI _ _ _), dn_e, ln69 hl, al_l1 (by decide) (by decide), ln81 hl, as_l1 (by decide) (by decide), if_neg (by decide), sh68_0 ((hs.sI _ _ _).sI _ _ _), dn_e, ln69 hl, al_l1 (by decide) (by decide), hI_row (by decide), hI_row (by decide), hn.2.2.1]
    exact ⟨rfl, h.sm (((Sm.rf _).sI (by unfold sc; omega)).sI (by unfold sc; omega))⟩
  · obtain ⟨q, key, c, q1, q2⟩ := m4 t t1
    have ek : key = 1 := by rw [← q2.ks, t2]
    subst ek
    rw [t3, if_pos (nI_pos' (by omega)), sh1_10 hs, dn_e, ln8 hl, al_e (by omega) (by decide), show hR S 8 t = some q from q1]
    dsimp only
    rw [cO_s, sh0_0 hs, dn_e, lt_e, dn_e, lt_e, sh0_10 hs, dn_e]
    refine p_give (ln44 hl) (by decide) q2 (fun S1 x1 => ?_)
    have hs1 := x1.sh hs
    have o1 : ∀ r k, r ≠ 44 → hI S1 r k = hI S r k := x1.2.1
    unfold wpX8_fee
    dsimp only
    have hw1 : ∀ t, t < m → ∃ q key c, hR S1 (1 + 7) t = some q ∧ LAW ln N S1 q 69 t key c := fun t ht => by
      obtain ⟨q, key, c, q1, q2⟩ := m4 t ht
      exact ⟨q, key, c, by rw [x1.2.2]; exact q1, q2.ag (fun r k u => o1 r k (by omega)) (fun r k _ => x1.2.2 r k) (fun k _ => o1 _ _ (by decide))⟩
    have ksE : ksM S1 69 = ksM S 69 := by funext t; unfold ksM; rw [o1 _ _ (by decide)]
    refine p_counts (key := 1) hs1 hl (by decide) m1 (by rw [o1 _ _ (by decide)]; exact m3) hw1 ?_
    rw [ksE, t3, sh68_23 hs1, dn_e, sh68_0 hs1, dn_e, ln69 hl, al_l2 (by decide) (by decide), ln81 hl, as_l0 (by decide) (by decide), sh68_23 (hs1.sI _ _ _), dn_e, sh68_0 (hs1.sI _ _ _), dn_e, ln69 hl, al_l1 (by decide) (by decide), ln81 hl, as_l1 (by decide) (by decide), if_pos (nI_pos' (by omega))]
    have q3 : LAW ln N (sI (sI S1 81 0 (hI S1 69 2)) 81 1 (hI (sI S1 81 0 (hI S1 69 2)) 69 1)) q 69 t 1 c := q2.ag (fun r k u => by rw [hI_row (by omega), hI_row (by omega), o1 r k (by omega)]) (fun r k _ => x1.2.2 r k) (fun k _ => by rw [hI_row (by decide), hI_row (by decide), o1 _ _ (by decide)])
    refine p_worksOut (a := hI S 1 8) (b := hI S 1 6) (e := 0) ((hs1.sI _ _ _).sI _ _ _) hl (by omega) q3 ?_ ?_ (by omega) (fun S3 x3 => ⟨?_, ?_⟩)
    · rw [hI_ne (by decide), hI_self, o1 _ _ (by decide)]; exact hn.2.2.2.2.2.2.1.1.symm
    · rw [hI_self, hI_row (by decide), o1 _ _ (by decide), hn.2.2.1, hn.2.1]
    · have ec : (fun i => hI (sI (sI S1 81 0 (hI S1 69 2)) 81 1 (hI (sI S1 81 0 (hI S1 69 2)) 69 1)) 69 (117 + 96 * t + i)) = fun i => hI S 69 (117 + 96 * t + i) := by
        funext i; rw [hI_row (by decide), hI_row (by decide), o1 _ _ (by decide)]
      rw [ec]
      exact evF_ag c 0 0 1 _ _ q2.2.2.2.2.2.2.2.1 (fun j hj => absurd hj (by omega)) 0 (by decide)
    · refine h.sm ⟨fun r k u => ?_, fun r k _ _ _ => by rw [x3.2.2, hR_sI, hR_sI, x1.2.2]⟩
      unfold sc at u
      rw [x3.2.1 _ _ (by omega), hI_row (by omega), hI_row (by omega), o1 _ _ (by omega)]
