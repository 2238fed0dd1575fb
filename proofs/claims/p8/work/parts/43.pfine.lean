/-! step: fine -/
def us (x s : Int32) : Int32 := (x.toUInt32 >>> (s.toUInt32 &&& Int32.toUInt32 31)).toInt32
def bc1 (a : Int32) : Int32 := a - (us a 1 &&& 1431655765)
def bc2 (a : Int32) : Int32 := (a &&& 858993459) + (us a 2 &&& 858993459)
def bc3 (a : Int32) : Int32 := a + us a 4 &&& 252645135
def bc4 (a : Int32) : Int32 := a + us a 8
def bc5 (a : Int32) : Int32 := a + us a 16 &&& 63
def pcN (b : Nat) : Nat → Nat
  | 0 => 0
  | i + 1 => pcN b i + b / 2 ^ i % 2
theorem bc_e : ∀ b : Fin 256, bc5 (bc4 (bc3 (bc2 (bc1 (nI b.val))))) = nI (pcN b.val 8) := by decide +kernel
theorem p_bitCount {ln : Nat → Nat} {S : HC} {b : Nat} {post : Int32 → HC → Prop} (hb : b < 256) : wpJ6_bitCount_0f7a4 ln S (nI b) post = post (nI (pcN b 8)) S := by
  rw [← bc_e ⟨b, hb⟩]
  unfold wpJ6_bitCount_0f7a4 bc5 bc4 bc3 bc2 bc1 us
  simp only [lt_e]
theorem pcN_le (b : Nat) : ∀ i, pcN b i ≤ i := by
  intro i
  induction i with
  | zero => exact Nat.le_refl _
  | succ i ih => rw [pcN]; omega
theorem sh8 : ∀ i : Fin 8, ((nI i.val &&& 31).toBitVec.smod 32).toNat = i.val := by decide
theorem p_mfine {ln : Nat → Nat} {S : HC} {j b : Nat} {x2 : Int32} {post : Int32 → HC → Prop} (hs : SH S) (hl : LN ln) (hj : j < 14) (hb : b < 256) (h5 : mf S 69 5 j = nI b) (h : (if 0 ≤ x2 then wpX8_worksOut ln (sI (sI S 81 0 (mf S 69 4 j)) 81 1 (nI (pcN b 8))) 68 x2 fun z4 S => post z4 S else post (mf S 69 4 j) (sI (sI S 81 0 (mf S 69 4 j)) 81 1 (nI (pcN b 8))))) : ∃ n, LX8_fine_22 ln post n S 68 (nI j) x2 0 0 := by
  have kk : ∀ m i, i + m = 8 → LX8_fine_22 ln post (m + 1) S 68 (nI j) x2 (nI (pcN b i)) (nI i) := by
    intro m
    induction m with
    | zero =>
      intro i hi
      have e : i = 8 := by omega
      subst e
      rw [LX8_fine_22]
      dsimp only
      rw [if_pos (by decide), sh68_23 hs, dn_e, p_of4 hs hl (by omega), ln81 hl, as_l0 (by decide) (by decide), sh68_23 (hs.sI _ _ _), dn_e, ln81 hl, as_l1 (by decide) (by decide), p_of4 ((hs.sI _ _ _).sI _ _ _) hl (by omega)]
      have e4 : mf (sI (sI S 81 0 (mf S 69 4 j)) 81 1 (nI (pcN b 8))) 69 4 j = mf S 69 4 j := by
        unfold mf; rw [hI_row (by decide), hI_row (by decide)]
      rw [e4]
      exact h
    | succ m ih =>
      intro i hi
      rw [LX8_fine_22]
      dsimp only
      rw [if_neg (show ¬ (8 : Int32) ≤ nI i from nI_ge (b := 8) (by omega) (by decide)), p_of5 hs hl (by omega), h5]
      simp only [lt_e]
      rw [pk_shrN (by omega) _ i (sh8 ⟨i, by omega⟩), pk_andN (Nat.lt_of_le_of_lt (Nat.div_le_self _ _) (by omega)) 1 (by decide), nI_add, nI_1]
      exact ih (i + 1) (by omega)
  exact ⟨9, kk 8 0 (by omega)⟩
theorem s_fine {N : Nat} {ln : Nat → Nat} {S : HC} (h : PI N ln S) (a1 : Int32) : wpX7_fine ln S 0 a1 fun v S => wpX8_fine ln S 68 a1 fun w S => OK N ln v w S := by
  obtain ⟨⟨hs, hl, -, -⟩, ⟨⟨n, hn⟩, m, m1, m2, m3, m4⟩, -⟩ := id h
  have h14 := hn.1
  unfold wpX7_fine wpX0_lawFor
  rw [sh0_0 hs, dn_e, p_has]
  rcases i_in a1 n (by omega) with ⟨j, hj, rfl⟩ | hx
  · rw [hasT hn.2.1 h14 hj, if_neg (by decide), sh0_0 hs, dn_e]
    obtain ⟨b, hb, eb⟩ := hn.2.2.2.2.1.bar hj
    have e4 : hI S 6 j = mf S 69 4 j := hn.2.2.2.1 4 (by decide) j hj
    have e5 : hI S 7 j = nI b := (hn.2.2.2.1 5 (by decide) j hj).trans eb
    refine p_lastLaw (key := 2) hs hl (Or.inl rfl) (by decide) m1 m2 m4 ?_
    rcases lastL_ok (ksM S 69) 2 m with e | ⟨t, t1, t2, t3⟩
    · rw [e, if_neg (by decide)]
      dsimp only
      rw [cO_n, sh0_0 hs, dn_e, sh1_4 hs, dn_e, ln6 hl, al_e (by omega) (by decide), e4]
      unfold wpX8_fine
      dsimp only
      rw [p_isOne hs hl, oneT hn.2.2.1 h14 hj, if_neg (by decide)]
      refine p_counts (key := 2) hs hl (by decide) m1 m3 m4 ?_
      rw [e]
      refine p_mfine hs hl (by omega) hb eb ?_
      rw [if_neg (by decide)]
      exact ⟨rfl, h.sm (((Sm.rf _).sI (by unfold sc; omega)).sI (by unfold sc; omega))⟩
    · obtain ⟨q, key, c, q1, q2⟩ := m4 t t1
      have ek : key = 2 := by rw [← q2.ks, t2]
      subst ek
      rw [t3, if_pos (nI_pos' (by omega)), sh1_10 hs, dn_e, ln8 hl, al_e (by omega) (by decide), show hR S 8 t = some q from q1]
      dsimp only
      rw [cO_s, sh0_0 hs, dn_e, sh1_4 hs, dn_e, ln6 hl, al_e (by omega) (by decide), dn_e, sh1_5 hs, dn_e, ln7 hl, al_e (by omega) (by decide), e4, e5, p_bitCount hb, sh0_10 hs, dn_e]
      refine p_give (ln44 hl) (by decide) q2 (fun S1 x1 => ?_)
      have hs1 := x1.sh hs
      have o1 : ∀ r k, r ≠ 44 → hI S1 r k = hI S r k := x1.2.1
      have o2 : ∀ k j, mf S1 69 k j = mf S 69 k j := fun k j => o1 _ _ (by decide)
      unfold wpX8_fine
      dsimp only
      rw [p_isOne hs1 hl, oneT (n := n) (by rw [o1 _ _ (by decide)]; exact hn.2.2.1) h14 hj, if_neg (by decide)]
      have hw1 : ∀ t, t < m → ∃ q key c, hR S1 (1 + 7) t = some q ∧ LAW ln N S1 q 69 t key c := fun t ht => by
        obtain ⟨q, key, c, q1, q2⟩ := m4 t ht
        exact ⟨q, key, c, by rw [x1.2.2]; exact q1, q2.ag (fun r k u => o1 r k (by omega)) (fun r k _ => x1.2.2 r k) (fun k _ => o1 _ _ (by decide))⟩
      have ksE : ksM S1 69 = ksM S 69 := by funext t; unfold ksM; rw [o1 _ _ (by decide)]
      refine p_counts (key := 2) hs1 hl (by decide) m1 (by rw [o1 _ _ (by decide)]; exact m3) hw1 ?_
      rw [ksE, t3]
      refine p_mfine hs1 hl (by omega) hb (by rw [o2]; exact eb) ?_
      rw [if_pos (nI_pos' (by omega)), o2]
      have q3 : LAW ln N (sI (sI S1 81 0 (mf S 69 4 j)) 81 1 (nI (pcN b 8))) q 69 t 2 c := q2.ag (fun r k u => by rw [hI_row (by omega), hI_row (by omega), o1 r k (by omega)]) (fun r k _ => x1.2.2 r k) (fun k _ => by rw [hI_row (by decide), hI_row (by decide), o1 _ _ (by decide)])
      refine p_worksOut (a := mf S 69 4 j) (b := nI (pcN b 8)) (e := 0) ((hs1.sI _ _ _).sI _ _ _) hl (by omega) q3 ?_ ?_ (by omega) (fun S3 x3 => ⟨?_, ?_⟩)
      · rw [hI_ne (by decide), hI_self]
      · rw [hI_self]
      · have ec : (fun i => hI (sI (sI S1 81 0 (mf S 69 4 j)) 81 1 (nI (pcN b 8))) 69 (117 + 96 * t + i)) = fun i => hI S 69 (117 + 96 * t + i) := by
          funext i; rw [hI_row (by decide), hI_row (by decide), o1 _ _ (by decide)]
        rw [ec]
        exact evF_ag c 0 0 1 _ _ q2.2.2.2.2.2.2.2.1 (fun j hj => absurd hj (by omega)) 0 (by decide)
      · refine h.sm ⟨fun r k u => ?_, fun r k _ _ _ => by rw [x3.2.2, hR_sI, hR_sI, x1.2.2]⟩
        unfold sc at u
        rw [x3.2.1 _ _ (by omega), hI_row (by omega), hI_row (by omega), o1 _ _ (by omega)]
  · rw [hasF hn.2.1 hx, if_pos rfl]
    unfold wpX8_fine
    dsimp only
    rw [p_isOne hs hl, oneF hn.2.2.1 h14 hx, if_pos rfl]
    exact ⟨rfl, h⟩
