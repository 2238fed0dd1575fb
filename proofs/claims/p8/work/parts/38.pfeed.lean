/-! step: bytes fed -/
theorem and255 (x : Int32) : ∃ c, c < 256 ∧ x &&& 255 = nI c := pk_andE x 8 (by decide)
theorem g255 (i : Nat) (hi : i < 32) : (255#32).getLsbD i = decide (i < 8) := by
  rw [BitVec.getLsbD_ofNat, show (255 : Nat) = 2 ^ 8 - 1 by decide, Nat.testBit_two_pow_sub_one]
  simp [hi]
/-- the byte t of a word, the highest first -/
def byt (a : Int32) (t : Nat) : Int32 := (a.toUInt32 >>> ((nI (24 - 8 * t)).toUInt32 &&& Int32.toUInt32 31)).toInt32 &&& 255
theorem byt_s (x : Int32) {t : Nat} (ht : t < 4) : x >>> (nI (24 - 8 * t) &&& 31) &&& 255 = byt x t := by
  unfold byt
  apply Int32.toBitVec_inj.mp
  apply BitVec.eq_of_getLsbD_eq
  intro i hi
  rcases (show t = 0 ∨ t = 1 ∨ t = 2 ∨ t = 3 by omega) with rfl | rfl | rfl | rfl
  · rw [show nI (24 - 8 * 0) = 24 from rfl]
    simp [Int32.toBitVec_and, Int32.toBitVec_shiftRight, UInt32.toBitVec_shiftRight]
    rw [g255 i hi]
    by_cases e : i < 8
    · rw [BitVec.getLsbD_sshiftRight]
      simp [show ¬ 32 ≤ i by omega, show 24 + i < 32 by omega]
    · simp [e]
  · rw [show nI (24 - 8 * 1) = 16 from rfl]
    simp [Int32.toBitVec_and, Int32.toBitVec_shiftRight, UInt32.toBitVec_shiftRight]
    rw [g255 i hi]
    by_cases e : i < 8
    · rw [BitVec.getLsbD_sshiftRight]
      simp [show ¬ 32 ≤ i by omega, show 16 + i < 32 by omega]
    · simp [e]
  · rw [show nI (24 - 8 * 2) = 8 from rfl]
    simp [Int32.toBitVec_and, Int32.toBitVec_shiftRight, UInt32.toBitVec_shiftRight]
    rw [g255 i hi]
    by_cases e : i < 8
    · rw [BitVec.getLsbD_sshiftRight]
      simp [show ¬ 32 ≤ i by omega, show 8 + i < 32 by omega]
    · simp [e]
  · rw [show nI (24 - 8 * 3) = 0 from rfl]
    simp [Int32.toBitVec_and, Int32.toBitVec_shiftRight, UInt32.toBitVec_shiftRight]
def TK (S S' : HC) (k t : Nat) (a : Int32) : Prop := (∀ r i, ¬ (r = 38 ∧ i = 1) → r ≠ 39 → hI S' r i = hI S r i) ∧ hI S' 38 1 = nI (k + t) ∧ (∀ j, hI S' 39 j = if k ≤ j ∧ j < k + t then byt a (j - k) else hI S 39 j) ∧ ∀ r i, hR S' r i = hR S r i
theorem TK.sh {S S' : HC} {k t : Nat} {a : Int32} (h : TK S S' k t a) (hs : SH S) : SH S' := hs.of (fun _ _ => h.2.2.2 _ _)
def ixT (t : Nat) : Int32 := if t = 4 then -8 else nI (24 - 8 * t)
theorem p_take {ln : Nat → Nat} {S : HC} {k : Nat} {a : Int32} {post : HC → Prop} (hs : SH S) (hl : LN ln) (hk : hI S 38 1 = nI k) (h96 : k + 4 ≤ 96) (h : ∀ S', TK S S' k 4 a → post S') : wpX6_take ln S 38 a post := by
  have key : ∀ m t S', t + m = 4 → TK S S' k t a → LX6_take_3 ln post (m + 1) S' 38 a (ixT t) := by
    intro m
    induction m with
    | zero =>
      intro t S' ht hT
      have e : t = 4 := by omega
      subst e
      rw [LX6_take_3]
      dsimp only
      rw [if_pos (by decide)]
      exact h S' hT
    | succ m ih =>
      intro t S' ht hT
      rw [LX6_take_3]
      dsimp only
      unfold BX6_take_49
      have ei : ixT t + (-8) = ixT (t + 1) := by
        rcases (show t = 0 ∨ t = 1 ∨ t = 2 ∨ t = 3 by omega) with rfl | rfl | rfl | rfl <;> decide
      have e0 : ixT t = nI (24 - 8 * t) := if_neg (by omega)
      simp only [lt_e, hT.2.1]
      rw [ei, e0, if_neg (nI_pos (by omega)), if_neg (nI_pos (by omega)), if_neg (show ¬ (96 : Int32) ≤ nI (k + t) from nI_ge (b := 96) (by omega) (by decide)), sh38_0 (hT.sh hs), dn_e, ln39 hl, as_e (by omega) (by decide), hI_row (by decide), hT.2.1, nI_1]
      refine ih (t + 1) _ (by omega) ⟨fun r i q1 q2 => ?_, ?_, fun j => ?_, fun r i => hT.2.2.2 r i⟩
      · rw [hI_ne q1, hI_row q2]; exact hT.1 r i q1 q2
      · rw [hI_self]; rfl
      · rw [hI_row (by decide)]
        by_cases e : j = k + t
        · subst e
          rw [hI_self, if_pos (by omega), show k + t - k = t by omega]
          rfl
        · rw [hI_ne (by omega), hT.2.2.1 j]
          by_cases e2 : k ≤ j ∧ j < k + t
          · rw [if_pos e2, if_pos (by omega)]
          · rw [if_neg e2, if_neg (by omega)]
  exact ⟨5, key 4 0 S (by omega) ⟨fun _ _ _ _ => rfl, hk, fun j => by rw [if_neg (by omega)], fun _ _ => rfl⟩⟩
def wrd (a1 a2 a3 : Int32) (t : Nat) : Int32 := if t < 4 then a1 else if t < 8 then a2 else a3
theorem p_mfeed {ln : Nat → Nat} {S : HC} {k : Nat} {a1 a2 a3 : Int32} {post : Int32 → HC → Prop} (hs : SH S) (hl : LN ln) (hk : hI S 68 7 = nI k) (h96 : k + 12 ≤ 96) (h : ∀ S', Fl S S' 74 k (k + 12) (fun j => byt (wrd a1 a2 a3 (j - k)) ((j - k) % 4)) → post (nI (k + 12)) (sI S' 68 7 (nI (k + 12)))) : ∃ n, LX8_feed_18 ln post n S 68 a1 a2 a3 0 := by
  have key : ∀ m t S', t + m = 12 → Fl S S' 74 k (k + t) (fun j => byt (wrd a1 a2 a3 (j - k)) ((j - k) % 4)) → LX8_feed_18 ln post (m + 1) S' 68 a1 a2 a3 (nI t) := by
    intro m
    induction m with
    | zero =>
      intro t S' ht hF
      have e : t = 12 := by omega
      subst e
      rw [LX8_feed_18]
      dsimp only
      rw [if_pos (by decide)]
      simp only [lt_e, hI_self]
      rw [hF.o (by decide), hk, show nI k + 12 = nI (k + 12) from nI_add k 12]
      exact h S' hF
    | succ m ih =>
      intro t S' ht hF
      have st : ∀ t0, t0 = wrd a1 a2 a3 t → BX8_feed_47 ln post (LX8_feed_18 ln post (m + 1)) S' 68 a1 a2 a3 (nI t) t0 := fun t0 e => by
        unfold BX8_feed_47
        rw [sh68_6 (hF.sh hs), dn_e]
        simp only [lt_e]
        rw [ne_e (by decide), hF.o (by decide), hk, nI_add, show (4 : Int32) = nI 4 from rfl, rem_e (by omega) (by decide) (by decide), show (8 : Int32) * nI (t % 4) = nI (8 * (t % 4)) from pk_mul 8 (t % 4), show (24 : Int32) - nI (8 * (t % 4)) = nI (24 - 8 * (t % 4)) from pk_sub (a := 24) (by omega), byt_s _ (Nat.mod_lt _ (by decide)), ln74 hl, as_e (by omega) (by decide), nI_1]
        exact ih (t + 1) _ (by omega) (hF.step (by omega) (by rw [e, show k + t - k = t by omega]))
      rw [LX8_feed_18]
      dsimp only
      rw [if_neg (show ¬ (12 : Int32) ≤ nI t from nI_ge (b := 12) (by omega) (by decide))]
      by_cases e1 : t < 4
      · rw [if_neg (show ¬ (4 : Int32) ≤ nI t from nI_ge (b := 4) (by omega) (by decide))]
        exact st _ (if_pos e1).symm
      rw [if_pos (show (4 : Int32) ≤ nI t from nI_le (a := 4) (by omega) (by omega))]
      by_cases e2 : t < 8
      · rw [if_neg (show ¬ (8 : Int32) ≤ nI t from nI_ge (b := 8) (by omega) (by decide))]
        exact st _ (by unfold wrd; rw [if_neg e1, if_pos e2])
      · rw [if_pos (show (8 : Int32) ≤ nI t from nI_le (a := 8) (by omega) (by omega))]
        exact st _ (by unfold wrd; rw [if_neg e1, if_neg e2])
  exact ⟨13, key 12 0 S (by omega) (Fl.rf _ _ _ _)⟩
theorem s_feed {N : Nat} {ln : Nat → Nat} {S : HC} (h : PI N ln S) (a1 a2 a3 : Int32) : wpX7_feed ln S 0 a1 a2 a3 fun v S => wpX8_feed ln S 68 a1 a2 a3 fun w S => OK N ln v w S := by
  obtain ⟨⟨hs, hl, -, -⟩, -, -, ⟨k, k1, k2, k3, k4⟩, -⟩ := id h
  unfold wpX7_feed
  rw [sh0_5 hs, dn_e, sh37_0 hs, dn_e, lt_e, k2]
  by_cases c : k ≤ 84
  · rw [if_pos (show nI k ≤ 84 from nI_le (b := 84) c (by decide))]
    refine p_take hs hl k2 (by omega) (fun S1 t1 => ?_)
    refine p_take (t1.sh hs) hl t1.2.1 (by omega) (fun S2 t2 => ?_)
    refine p_take (t2.sh (t1.sh hs)) hl t2.2.1 (by omega) (fun S3 t3 => ?_)
    have hs3 := t3.sh (t2.sh (t1.sh hs))
    have e3 : ∀ r i, ¬ (r = 38 ∧ i = 1) → r ≠ 39 → hI S3 r i = hI S r i := fun r i q1 q2 => by rw [t3.1 r i q1 q2, t2.1 r i q1 q2, t1.1 r i q1 q2]
    rw [lt_e, t3.2.1]
    unfold wpX8_feed
    simp only [lt_e]
    rw [e3 68 7 (by decide) (by decide), k3, show nI k + 12 = nI (k + 12) from nI_add k 12, if_pos (show nI (k + 12) ≤ 96 from nI_le (b := 96) (by omega) (by decide))]
    refine p_mfeed hs3 hl (by rw [e3 68 7 (by decide) (by decide)]; exact k3) (by omega) (fun S4 f4 => ⟨by rw [show k + 4 + 4 + 4 = k + 12 by omega], h.tap (fun r i => by rw [hR_sI, f4.2, t3.2.2.2, t2.2.2.2, t1.2.2.2]) (fun r i q => by rw [hI_ne (by omega), f4.o (by omega), e3 _ _ (by omega) (by omega)]) ⟨k + 12, by omega, ?_, ?_, fun j hj => ?_⟩⟩)
    · rw [hI_row (by decide), f4.o (by decide), t3.2.1, show k + 4 + 4 + 4 = k + 12 by omega]
    · rw [hI_self]
    · rw [hI_row (by decide), hI_row (by decide), f4.o (by decide)]
      by_cases e : j < k
      · rw [f4.x (by omega), t3.2.2.1, if_neg (by omega), t2.2.2.1, if_neg (by omega), t1.2.2.1, if_neg (by omega), e3 74 j (by omega) (by decide)]
        exact k4 j e
      · rw [f4.i (by omega) (by omega)]
        refine ⟨?_, and255 _⟩
        unfold wrd
        rw [t3.2.2.1]
        by_cases e8 : k + 8 ≤ j
        · rw [if_pos (by omega), if_neg (by omega), if_neg (by omega), show (j - k) % 4 = j - (k + 4 + 4) by omega]
        · rw [if_neg (by omega), t2.2.2.1]
          by_cases e4 : k + 4 ≤ j
          · rw [if_pos (by omega), if_neg (by omega), if_pos (by omega), show (j - k) % 4 = j - (k + 4) by omega]
          · rw [if_neg (by omega), t1.2.2.1, if_pos (by omega), if_pos (by omega), show (j - k) % 4 = j - k by omega]
  · rw [if_neg (show ¬ nI k ≤ 84 from nI_ge (b := k) (a := 84) (by omega) (by omega))]
    unfold wpX8_feed
    simp only [lt_e]
    rw [k3, show nI k + 12 = nI (k + 12) from nI_add k 12, if_neg (show ¬ nI (k + 12) ≤ 96 from nI_ge (b := k + 12) (a := 96) (by omega) (by omega))]
    exact ⟨rfl, h⟩
