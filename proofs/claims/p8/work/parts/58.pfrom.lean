/-! step: from -/
def bt (x : Int32) : Int32 := if 0 ≤ x then (1 : Int32) <<< (x &&& 31) else 0
def frF (f : Nat → Nat → Int32) (ch : Int32) : Nat → Int32 → Int32 → Int32
  | 0, _, best => best
  | i + 1, mask, best => if (mask >>> (nI i &&& 31)) &&& 1 = 1 then frF f ch i (mask ||| bt (f 1 i) ||| bt (f 2 i)) (if f 1 i = -1 ∧ f 4 i = ch then nI i else best) else frF f ch i mask best
def tl0 (x : Int32) : Int32 := if 0 ≤ x then x else -1000000005
theorem p_mfrom {ln : Nat → Nat} {S : HC} {n : Nat} {f : Nat → Nat → Int32} {ch : Int32} {post : Int32 → HC → Prop} (hs : SH S) (hl : LN ln) (hf : AG n (mf S 69) f) (hv : VP n f) (h14 : n ≤ 14) : ∀ i mask best, i ≤ n → post (tl0 (frF f ch i mask best)) S → LX8_from_28 ln post (i + 1) S 68 ch mask best (nI i - 1) := by
  intro i
  induction i with
  | zero =>
    intro mask best hi hp
    rw [LX8_from_28]
    dsimp only
    rw [if_pos z1n, p_told0]
    rw [frF] at hp
    exact hp
  | succ i ih =>
    intro mask best hi hp
    rw [frF] at hp
    rw [LX8_from_28]
    dsimp only
    unfold BX8_from_67 BX8_from_93 BX8_from_121 BX8_from_123 BX8_from_125
    rw [sub1, if_neg (nI_pos (by omega))]
    simp only [lt_e, p_of1 hs hl (show i < 200 by omega), p_of2 hs hl (show i < 200 by omega), p_of4 hs hl (show i < 200 by omega), hf 1 (by decide) i (by omega), hf 2 (by decide) i (by omega), hf 4 (by decide) i (by omega), addm1]
    by_cases u : (mask >>> (nI i &&& 31)) &&& 1 = 1
    · rw [if_pos u] at hp ⊢
      rcases hv.fat (show i < n by omega) with e | ⟨p, hp1, e⟩
      · have b1 : bt (f 1 i) = 0 := by rw [e]; decide
        rw [b1] at hp
        rw [e, if_neg (by decide)]
        simp only [e, if_neg (show ¬ (0 : Int32) ≤ -1 by decide)]
        by_cases g : 0 ≤ f 2 i
        · rw [show bt (f 2 i) = (1 : Int32) <<< (f 2 i &&& 31) from if_pos g] at hp
          rw [if_pos g]
          by_cases w : f 4 i = ch
          · rw [if_pos (show f 1 i = -1 ∧ f 4 i = ch from ⟨e, w⟩)] at hp
            rw [if_pos w]; exact ih _ _ (by omega) hp
          · rw [if_neg (show ¬ (f 1 i = -1 ∧ f 4 i = ch) from fun v => w v.2)] at hp
            rw [if_neg w]; exact ih _ _ (by omega) hp
        · rw [show bt (f 2 i) = 0 from if_neg g] at hp
          rw [if_neg g]
          by_cases w : f 4 i = ch
          · rw [if_pos (show f 1 i = -1 ∧ f 4 i = ch from ⟨e, w⟩)] at hp
            rw [if_pos w]; exact ih _ _ (by omega) hp
          · rw [if_neg (show ¬ (f 1 i = -1 ∧ f 4 i = ch) from fun v => w v.2)] at hp
            rw [if_neg w]; exact ih _ _ (by omega) hp
      · have g1 : 0 ≤ f 1 i := by rw [e]; exact nI_pos' (by omega)
        have ne : ¬ f 1 i = -1 := by rw [e]; exact m1_ne (by omega)
        rw [show bt (f 1 i) = (1 : Int32) <<< (f 1 i &&& 31) from if_pos g1, if_neg (show ¬ (f 1 i = -1 ∧ f 4 i = ch) from fun v => ne v.1)] at hp
        simp only [if_pos g1]
        by_cases g : 0 ≤ f 2 i
        · rw [show bt (f 2 i) = (1 : Int32) <<< (f 2 i &&& 31) from if_pos g] at hp
          rw [if_pos g]; exact ih _ _ (by omega) hp
        · rw [show bt (f 2 i) = 0 from if_neg g] at hp
          rw [if_neg g]; exact ih _ _ (by omega) hp
    · rw [if_neg u] at hp ⊢
      exact ih _ _ (by omega) hp
