/-! step: from, on -/
theorem p_bitOf {ln : Nat → Nat} {S : HC} {x : Int32} {post : Int32 → HC → Prop} (h : x = -1 ∨ 0 ≤ x) : wpX0_bitOf ln S x post = post (bt x) S := by
  unfold wpX0_bitOf bt
  rcases h with rfl | h
  · rw [if_pos rfl, if_neg (by decide)]
  · rw [if_neg (fun u => by rw [u] at h; exact absurd h (by decide)), lt_e, if_pos h]
theorem frF_ok {f : Nat → Nat → Int32} {ch : Int32} : ∀ i mask best, i < 100 → (best = -1 ∨ 0 ≤ best) → (frF f ch i mask best = -1 ∨ 0 ≤ frF f ch i mask best) := by
  intro i
  induction i with
  | zero => intro mask best _ h; rw [frF]; exact h
  | succ i ih =>
    intro mask best hi h
    rw [frF]
    by_cases u : (mask >>> (nI i &&& 31)) &&& 1 = 1
    · rw [if_pos u]
      refine ih _ _ (by omega) ?_
      by_cases w : f 1 i = -1 ∧ f 4 i = ch
      · rw [if_pos w]; exact Or.inr (nI_pos' (by omega))
      · rw [if_neg w]; exact h
    · rw [if_neg u]; exact ih _ _ (by omega) h
theorem p_oldest {ln : Nat → Nat} {S : HC} {b n : Nat} {f : Nat → Nat → Int32} {ch : Int32} {post : Int32 → HC → Prop} (hs : SH S) (hl : LN ln) (hb : LB b) (hn : hI S b 6 = nI n) (hf : AG n (xf S b) f) (hv : VP n f) (h14 : n ≤ 14) : ∀ i mask best, i ≤ n → post (frF f ch i mask best) S → LX0_oldestFounder_10 ln post (i + 1) S b ch mask best (nI i - 1) := by
  intro i
  induction i with
  | zero =>
    intro mask best hi hp
    rw [LX0_oldestFounder_10]
    dsimp only
    rw [if_pos z1n]
    rw [frF] at hp
    exact hp
  | succ i ih =>
    intro mask best hi hp
    have ef : ∀ k, k < 6 → hI S (b + 1 + k) i = f k i := fun k q => hf k q i (by omega)
    have o1 : f 1 i = -1 ∨ 0 ≤ f 1 i := by
      rcases hv.fat (show i < n by omega) with e | ⟨p, _, e⟩
      · exact Or.inl e
      · exact Or.inr (by rw [e]; exact nI_pos' (by omega))
    have o2 : f 2 i = -1 ∨ 0 ≤ f 2 i := by
      rcases hv.mot (show i < n by omega) with e | ⟨p, _, e⟩
      · exact Or.inl e
      · exact Or.inr (by rw [e]; exact nI_pos' (by omega))
    have b60 : ∀ bs, post (frF f ch i (mask ||| bt (f 1 i) ||| bt (f 2 i)) bs) S → BX0_oldestFounder_60 ln post (LX0_oldestFounder_10 ln post (i + 1)) S b ch mask bs (nI i) := fun bs hp => by
      unfold BX0_oldestFounder_60 BX0_oldestFounder_84
      rw [lb_r hs hb (i := 1) (by decide), dn_e, lb_n hl hb (i := 1) (by decide), al_e (by omega) (by decide), ef 1 (by decide), p_bitOf o1, lb_r hs hb (i := 2) (by decide), dn_e, lb_n hl hb (i := 2) (by decide), al_e (by omega) (by decide), ef 2 (by decide), p_bitOf o2, lt_e, lt_e, lt_e, addm1, ← Int32.or_assoc]
      exact ih _ _ (by omega) hp
    rw [frF] at hp
    rw [LX0_oldestFounder_10]
    dsimp only
    rw [sub1, if_neg (nI_pos (by omega)), p_has, hasT hn h14 (by omega), if_neg (by decide), lt_e, lt_e]
    by_cases u : (mask >>> (nI i &&& 31)) &&& 1 = 1
    · rw [if_pos u] at hp ⊢
      rw [lb_r hs hb (i := 1) (by decide), dn_e, lb_n hl hb (i := 1) (by decide), al_e (by omega) (by decide), ef 1 (by decide)]
      by_cases e : f 1 i = -1
      · rw [if_pos e, lb_r hs hb (i := 4) (by decide), dn_e, lb_n hl hb (i := 4) (by decide), al_e (by omega) (by decide), ef 4 (by decide)]
        by_cases w : f 4 i = ch
        · rw [if_pos (show f 1 i = -1 ∧ f 4 i = ch from ⟨e, w⟩)] at hp
          rw [if_pos w]; exact b60 _ hp
        · rw [if_neg (show ¬ (f 1 i = -1 ∧ f 4 i = ch) from fun v => w v.2)] at hp
          rw [if_neg w]; exact b60 _ hp
      · rw [if_neg (show ¬ (f 1 i = -1 ∧ f 4 i = ch) from fun v => e v.1)] at hp
        rw [if_neg e]; exact b60 _ hp
    · rw [if_neg u] at hp ⊢
      unfold BX0_oldestFounder_84
      rw [lt_e, addm1]
      exact ih _ _ (by omega) hp
theorem s_from {N : Nat} {ln : Nat → Nat} {S : HC} (h : PI N ln S) (a1 a2 : Int32) : wpX7_from ln S 0 a1 a2 fun v S => wpX8_from ln S 68 a1 a2 fun w S => OK N ln v w S := by
  obtain ⟨⟨hs, hl, -, -⟩, ⟨⟨n, hn⟩, -⟩, -⟩ := id h
  have h14 := hn.1
  have hv := hn.2.2.2.2.1
  unfold wpX7_from BX7_from_18 wpX0_oldestFounder
  rw [sh0_0 hs, dn_e, p_has]
  rcases i_in a1 n (by omega) with ⟨p, hp, rfl⟩ | hx
  · rw [hasT hn.2.1 h14 hp, if_neg (by decide), p_isCharge]
    by_cases c : 0 ≤ a2 ∧ a2 < 8
    · rw [bI_t c, if_neg (by decide), sh0_0 hs, dn_e, lt_e]
      refine ⟨p + 2, ?_⟩
      have k1 := fun post => p_oldest (ch := a2) (post := post) hs hl (Or.inl rfl) hn.2.1 hn.2.2.2.1 hv h14 (p + 1) ((1 : Int32) <<< (nI p &&& 31)) (-1) (by omega)
      have k2 := fun post => p_mfrom (ch := a2) (post := post) hs hl (fun _ _ _ _ => rfl) hv h14 (p + 1) ((1 : Int32) <<< (nI p &&& 31)) (-1) (by omega)
      have ok := frF_ok (f := mf S 69) (ch := a2) (p + 1) ((1 : Int32) <<< (nI p &&& 31)) (-1) (by omega) (Or.inl rfl)
      rw [sub1] at k1 k2
      generalize frF (mf S 69) a2 (p + 1) ((1 : Int32) <<< (nI p &&& 31)) (-1) = v0 at k1 k2 ok
      refine k1 _ ?_
      have mm : ∀ v, v = tl0 v0 → wpX8_from ln S 68 (nI p) a2 fun w S => OK N ln v w S := fun v ev => by
        unfold wpX8_from
        rw [p_isOne hs hl, oneT hn.2.2.1 h14 hp, if_neg (by decide), p_mCharge, chE, bI_t c, if_neg (by decide), lt_e]
        exact ⟨p + 2, k2 _ ⟨ev, h⟩⟩
      by_cases e : v0 = -1
      · rw [if_pos e]; exact mm _ (by unfold tl0; rw [if_neg (by rw [e]; decide)])
      · rw [if_neg e]
        exact mm _ (by
          unfold tl0
          rcases ok with q | q
          · exact absurd q e
          · rw [if_pos q])
    · rw [bI_f c, if_pos rfl]
      unfold wpX8_from BX8_from_15
      dsimp only
      rw [p_isOne hs hl, oneT hn.2.2.1 h14 hp, if_neg (by decide), p_mCharge, chE, bI_f c, if_pos rfl]
      exact ⟨rfl, h⟩
  · rw [hasF hn.2.1 hx, if_pos rfl]
    unfold wpX8_from BX8_from_15
    dsimp only
    rw [p_isOne hs hl, oneF hn.2.2.1 h14 hx, if_pos rfl]
    exact ⟨rfl, h⟩
