/-! steps: kinds, people that come -/
theorem iok_s {ln : Nat → Nat} {S : HC} {post : Int32 → HC → Prop} {w : Int32} {n i c : Nat} (hi : i < 6) (hc : c < 6) : LX7_isOfKind_4 ln post (n + 1) S w (nI c) (nI i) = if nI c = w then post 1 S else LX7_isOfKind_4 ln post n S w (kaL.getD c 0) (nI (i + 1)) := by
  rw [LX7_isOfKind_4]
  dsimp only
  rw [if_neg (show ¬ (6 : Int32) ≤ nI i from nI_ge (b := 6) hi (by decide)), p_isKind, bI_t ⟨nI_pos' (by omega), show nI c < 6 from nI_lt (b := 6) hc (by decide)⟩, if_neg (by decide), rb_e1, al_e hc (by decide), lt_e, show (1 : Int32) = nI 1 from rfl, nI_add]
theorem iok_e {ln : Nat → Nat} {S : HC} {post : Int32 → HC → Prop} {w : Int32} {n i : Nat} (hi : i < 6) : LX7_isOfKind_4 ln post (n + 1) S w (-1) (nI i) = post 0 S := by
  rw [LX7_isOfKind_4]
  dsimp only
  rw [if_neg (show ¬ (6 : Int32) ≤ nI i from nI_ge (b := 6) hi (by decide)), p_isKind, bI_f (fun q => absurd q.1 (by decide)), if_pos rfl]
  unfold BX7_isOfKind_36
  rw [rb_e0]
theorem p_isOfKind {ln : Nat → Nat} {S : HC} {post : Int32 → HC → Prop} {w : Int32} {c : Nat} (hc : c < 6) (h : isU (nI c) w → post 1 S) (h2 : ¬ isU (nI c) w → post 0 S) : wpX7_isOfKind ln S (nI c) w post := by
  obtain ⟨k0, k1, k2, k3, k4, k5⟩ := kaLe
  refine ⟨5, ?_⟩
  rw [show (0 : Int32) = nI 0 from rfl, iok_s (by decide) hc]
  unfold isU at h h2
  rcases (show c = 0 ∨ c = 1 ∨ c = 2 ∨ c = 3 ∨ c = 4 ∨ c = 5 by omega) with rfl | rfl | rfl | rfl | rfl | rfl
  · rw [k0, iok_e (by decide)]
    split
    · rename_i e; exact h (Or.inr (Or.inl e))
    · rename_i e
      refine h2 (fun q => ?_)
      rcases q with q | q | ⟨q1, q2⟩ | ⟨q1, q2⟩
      · exact e q.symm
      · exact e q
      · exact absurd q2 (by decide)
      · exact absurd q2 (by decide)
  · rw [k1, show (0 : Int32) = nI 0 from rfl, iok_s (by decide) (by decide), k0, iok_e (by decide)]
    split
    · rename_i e; exact h (Or.inr (Or.inl e))
    · rename_i e
      split
      · rename_i e2; exact h (Or.inl e2.symm)
      · rename_i e2
        refine h2 (fun q => ?_)
        rcases q with q | q | ⟨q1, q2⟩ | ⟨q1, q2⟩
        · exact e2 q.symm
        · exact e q
        · exact absurd q2 (by decide)
        · exact absurd q2 (by decide)
  · rw [k2, show (0 : Int32) = nI 0 from rfl, iok_s (by decide) (by decide), k0, iok_e (by decide)]
    split
    · rename_i e; exact h (Or.inr (Or.inl e))
    · rename_i e
      split
      · rename_i e2; exact h (Or.inl e2.symm)
      · rename_i e2
        refine h2 (fun q => ?_)
        rcases q with q | q | ⟨q1, q2⟩ | ⟨q1, q2⟩
        · exact e2 q.symm
        · exact e q
        · exact absurd q2 (by decide)
        · exact absurd q2 (by decide)
  · rw [k3, show (1 : Int32) = nI 1 from rfl, iok_s (by decide) (by decide), k1, show (0 : Int32) = nI 0 from rfl, iok_s (by decide) (by decide), k0, iok_e (by decide)]
    split
    · rename_i e; exact h (Or.inr (Or.inl e))
    · rename_i e
      split
      · rename_i e2; exact h (Or.inr (Or.inr (Or.inl ⟨e2.symm, rfl⟩)))
      · rename_i e2
        split
        · rename_i e3; exact h (Or.inl e3.symm)
        · rename_i e3
          refine h2 (fun q => ?_)
          rcases q with q | q | ⟨q1, q2⟩ | ⟨q1, q2⟩
          · exact e3 q.symm
          · exact e q
          · exact e2 q1.symm
          · exact absurd q2 (by decide)
  · rw [k4, show (2 : Int32) = nI 2 from rfl, iok_s (by decide) (by decide), k2, show (0 : Int32) = nI 0 from rfl, iok_s (by decide) (by decide), k0, iok_e (by decide)]
    split
    · rename_i e; exact h (Or.inr (Or.inl e))
    · rename_i e
      split
      · rename_i e2; exact h (Or.inr (Or.inr (Or.inr ⟨e2.symm, rfl⟩)))
      · rename_i e2
        split
        · rename_i e3; exact h (Or.inl e3.symm)
        · rename_i e3
          refine h2 (fun q => ?_)
          rcases q with q | q | ⟨q1, q2⟩ | ⟨q1, q2⟩
          · exact e3 q.symm
          · exact e q
          · exact absurd q2 (by decide)
          · exact e2 q1.symm
  · rw [k5, show (0 : Int32) = nI 0 from rfl, iok_s (by decide) (by decide), k0, iok_e (by decide)]
    split
    · rename_i e; exact h (Or.inr (Or.inl e))
    · rename_i e
      split
      · rename_i e2; exact h (Or.inl e2.symm)
      · rename_i e2
        refine h2 (fun q => ?_)
        rcases q with q | q | ⟨q1, q2⟩ | ⟨q1, q2⟩
        · exact e2 q.symm
        · exact e q
        · exact absurd q2 (by decide)
        · exact absurd q2 (by decide)
/-- one that may be a parent -/
def mayP (n : Nat) (f : Nat → Nat → Int32) (x sx : Int32) : Prop := x = -1 ∨ ∃ j, j < n ∧ x = nI j ∧ f 3 j = sx
theorem mayP.ag {n : Nat} {f g : Nat → Nat → Int32} (h : AG n f g) {x sx : Int32} : mayP n f x sx ↔ mayP n g x sx := by
  constructor
  · rintro (q | ⟨j, q1, q2, q3⟩)
    · exact Or.inl q
    · exact Or.inr ⟨j, q1, q2, by rw [← h 3 (by decide) j q1]; exact q3⟩
  · rintro (q | ⟨j, q1, q2, q3⟩)
    · exact Or.inl q
    · exact Or.inr ⟨j, q1, q2, by rw [h 3 (by decide) j q1]; exact q3⟩
theorem m1_ne {j : Nat} (h : j < 2 ^ 31) : ¬ nI j = -1 := fun q => by
  have := congrArg Int32.toInt q
  rw [nI_toInt h] at this
  have e : (-1 : Int32).toInt = -1 := by decide
  omega
theorem p_canBe {ln : Nat → Nat} {S : HC} {b n : Nat} {x sx : Int32} {post : Int32 → HC → Prop} (hs : SH S) (hl : LN ln) (hb : LB b) (hn : hI S b 6 = nI n) (h14 : n ≤ 14) (h : mayP n (xf S b) x sx → post 1 S) (h2 : ¬ mayP n (xf S b) x sx → post 0 S) : wpX0_canBeParent ln S b x sx post := by
  unfold wpX0_canBeParent BX0_canBeParent_23 BX0_canBeParent_27
  rw [p_has, lb_r hs hb (i := 3) (by decide)]
  simp only [rb_e0, rb_e1, dn_e]
  by_cases e : x = -1
  · rw [if_pos e]; exact h (Or.inl e)
  · rw [if_neg e]
    rcases i_in x n (by omega) with ⟨j, hj, rfl⟩ | hx
    · rw [hasT hn h14 hj, if_neg (by decide), lb_n hl hb (i := 3) (by decide), al_e (by omega) (by decide)]
      by_cases e2 : hI S (b + 1 + 3) j = sx
      · rw [if_pos e2]; exact h (Or.inr ⟨j, hj, rfl, e2⟩)
      · rw [if_neg e2]
        refine h2 (fun q => ?_)
        rcases q with q | ⟨j2, q1, q2, q3⟩
        · exact e q
        · have := (nI_eq (by omega) (by omega)).mp q2
          subst this
          exact e2 q3
    · rw [hasF hn hx, if_pos rfl]
      refine h2 (fun q => ?_)
      rcases q with q | ⟨j2, q1, q2, q3⟩
      · exact e q
      · rw [q2] at hx
        rcases hx with hx | hx
        · exact absurd hx (nI_pos (by omega))
        · exact absurd hx (nI_ge q1 (by omega))
theorem p_mayBe {ln : Nat → Nat} {S : HC} {n : Nat} {x sx : Int32} {post : Int32 → HC → Prop} (hs : SH S) (hl : LN ln) (hn : hI S 69 1 = nI n) (h14 : n ≤ 14) (h : mayP n (mf S 69) x sx → post 1 S) (h2 : ¬ mayP n (mf S 69) x sx → post 0 S) : wpX8_mayBe ln S 68 x sx post := by
  unfold wpX8_mayBe BX8_mayBe_23 BX8_mayBe_27
  rw [p_isOne hs hl]
  simp only [rb_e0, rb_e1]
  by_cases e : x = -1
  · rw [if_pos e]; exact h (Or.inl e)
  · rw [if_neg e]
    rcases i_in x n (by omega) with ⟨j, hj, rfl⟩ | hx
    · rw [oneT hn h14 hj, if_neg (by decide), p_of3 hs hl (by omega)]
      by_cases e2 : mf S 69 3 j = sx
      · rw [if_pos e2]; exact h (Or.inr ⟨j, hj, rfl, e2⟩)
      · rw [if_neg e2]
        refine h2 (fun q => ?_)
        rcases q with q | ⟨j2, q1, q2, q3⟩
        · exact e q
        · have := (nI_eq (by omega) (by omega)).mp q2
          subst this
          exact e2 q3
    · rw [oneF hn h14 hx, if_pos rfl]
      refine h2 (fun q => ?_)
      rcases q with q | ⟨j2, q1, q2, q3⟩
      · exact e q
      · rw [q2] at hx
        rcases hx with hx | hx
        · exact absurd hx (nI_pos (by omega))
        · exact absurd hx (nI_ge q1 (by omega))
def xadd (S : HC) (b n : Nat) (k fa mo sx fi : Int32) : HC := sI (sI (sI (sI (sI (sI (sI S (b + 1) n k) (b + 2) n fa) (b + 3) n mo) (b + 4) n sx) (b + 5) n fi) (b + 6) n 0) b 6 (nI (n + 1))
def madd (S : HC) (n : Nat) (k fa mo sx fi : Int32) : HC := sI (sI (sI (sI (sI (sI (sI S 69 (5 + 6 * n) k) 69 (5 + 6 * n + 1) fa) 69 (5 + 6 * n + 2) mo) 69 (5 + 6 * n + 3) sx) 69 (5 + 6 * n + 4) fi) 69 (5 + 6 * n + 5) 0) 69 1 (nI (n + 1))
theorem p_add {ln : Nat → Nat} {S : HC} {b n : Nat} {k fa mo sx fi : Int32} {post : Int32 → HC → Prop} (hs : SH S) (hl : LN ln) (hb : LB b) (hn : hI S b 6 = nI n) (h14 : n < 14) : wpX0_add ln S b k fa mo sx fi post = post (nI n) (xadd S b n k fa mo sx fi) := by
  unfold wpX0_add
  rw [p_hasRoom hn (by omega), bI_t h14, if_neg (by decide)]
  simp only [lt_e, hn, hR_sI, lb_r hs hb (i := 0) (by decide), lb_r hs hb (i := 1) (by decide), lb_r hs hb (i := 2) (by decide), lb_r hs hb (i := 3) (by decide), lb_r hs hb (i := 4) (by decide), lb_r hs hb (i := 5) (by decide), dn_e, lb_n hl hb (i := 0) (by decide), lb_n hl hb (i := 1) (by decide), lb_n hl hb (i := 2) (by decide), lb_n hl hb (i := 3) (by decide), lb_n hl hb (i := 4) (by decide), lb_n hl hb (i := 5) (by decide), as_e (i := n) (n := 14) h14 (by decide)]
  rw [show (1 : Int32) = nI 1 from rfl, nI_add]
  rfl
theorem p_comes {ln : Nat → Nat} {S : HC} {n : Nat} {k fa mo sx fi : Int32} {post : Int32 → HC → Prop} (hs : SH S) (hl : LN ln) (hn : hI S 69 1 = nI n) (h14 : n < 14) : wpX8_comes ln S 68 k fa mo sx fi post = post (nI n) (madd S n k fa mo sx fi) := by
  unfold wpX8_comes
  simp only [show (1 : Int32) = nI 1 from rfl, show (2 : Int32) = nI 2 from rfl, show (3 : Int32) = nI 3 from rfl, show (4 : Int32) = nI 4 from rfl, show (5 : Int32) = nI 5 from rfl, show (6 : Int32) = nI 6 from rfl]
  simp only [lt_e, hR_sI, sh68_0 hs, dn_e, ln69 hl, al_e (i := 1) (n := 1461) (by decide) (by decide), as_e (i := 1) (n := 1461) (by decide) (by decide), hn, pk_mul, nI_add, as_e (i := 5 + 6 * n) (n := 1461) (by omega) (by decide), as_e (i := 5 + 6 * n + 1) (n := 1461) (by omega) (by decide), as_e (i := 5 + 6 * n + 2) (n := 1461) (by omega) (by decide), as_e (i := 5 + 6 * n + 3) (n := 1461) (by omega) (by decide), as_e (i := 5 + 6 * n + 4) (n := 1461) (by omega) (by decide), as_e (i := 5 + 6 * n + 5) (n := 1461) (by omega) (by decide)]
  have e : hI (sI (sI (sI (sI (sI (sI S 69 (5 + 6 * n) k) 69 (5 + 6 * n + 1) fa) 69 (5 + 6 * n + 2) mo) 69 (5 + 6 * n + 3) sx) 69 (5 + 6 * n + 4) fi) 69 (5 + 6 * n + 5) 0) 69 1 = nI n := by
    rw [hI_ne (by omega), hI_ne (by omega), hI_ne (by omega), hI_ne (by omega), hI_ne (by omega), hI_ne (by omega)]; exact hn
  rw [e, nI_add]
  rfl
