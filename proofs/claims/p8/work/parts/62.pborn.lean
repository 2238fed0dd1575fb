/-! what is thought, and put back; step born -/
theorem p_thinks {ln : Nat → Nat} {S : HC} {post : HC → Prop} (hs : SH S) (hl : LN ln) (h : ∀ S', Fl S S' 73 0 89 (hI S 69) → post S') : wpX8_thinks ln S 68 post := by
  have key : ∀ m j S', j + m = 89 → Fl S S' 73 0 j (hI S 69) → LX8_thinks_2 ln post (m + 1) S' 68 (nI j) := by
    intro m
    induction m with
    | zero =>
      intro j S' hj hF
      have e : j = 89 := by omega
      subst e
      rw [LX8_thinks_2]
      dsimp only
      rw [if_pos (by decide)]
      exact h S' hF
    | succ m ih =>
      intro j S' hj hF
      rw [LX8_thinks_2]
      dsimp only
      rw [if_neg (show ¬ (89 : Int32) ≤ nI j from nI_ge (b := 89) (by omega) (by decide)), sh68_5 (hF.sh hs), dn_e, sh68_0 (hF.sh hs), dn_e, ln69 hl, al_e (by omega) (by decide), ln73 hl, as_e (by omega) (by decide), lt_e, nI_1]
      exact ih (j + 1) _ (by omega) (hF.step (by omega) (hF.o (by decide)))
  exact ⟨90, key 89 0 S (by omega) (Fl.rf _ _ _ _)⟩
theorem p_putsBack {ln : Nat → Nat} {S : HC} {post : HC → Prop} (hs : SH S) (hl : LN ln) (h : ∀ S', Fl S S' 69 0 89 (hI S 73) → post S') : wpX8_putsBack ln S 68 post := by
  have key : ∀ m j S', j + m = 89 → Fl S S' 69 0 j (hI S 73) → LX8_putsBack_2 ln post (m + 1) S' 68 (nI j) := by
    intro m
    induction m with
    | zero =>
      intro j S' hj hF
      have e : j = 89 := by omega
      subst e
      rw [LX8_putsBack_2]
      dsimp only
      rw [if_pos (by decide)]
      exact h S' hF
    | succ m ih =>
      intro j S' hj hF
      rw [LX8_putsBack_2]
      dsimp only
      rw [if_neg (show ¬ (89 : Int32) ≤ nI j from nI_ge (b := 89) (by omega) (by decide)), sh68_0 (hF.sh hs), dn_e, sh68_5 (hF.sh hs), dn_e, ln73 hl, al_e (by omega) (by decide), ln69 hl, as_e (by omega) (by decide), lt_e, nI_1]
      exact ih (j + 1) _ (by omega) (hF.step (by omega) (hF.o (by decide)))
  exact ⟨90, key 89 0 S (by omega) (Fl.rf _ _ _ _)⟩
def brF (fe : Int32) : Nat → Nat → LA → Int32
  | 0, _, _ => -1000000005
  | m + 1, k, A => if yN A.1 A.2.1 fe A.2.2 = A.1 then brF fe m (k + 1) (yN A.1 A.2.1 fe A.2.2, yF A.1 A.2.1 fe A.2.2, yZ A.1 A.2.1 fe A.2.2) else nI (k + 1)
theorem p_xborn {ln : Nat → Nat} {fe : Int32} {post : Int32 → HC → Prop} (hl : LN ln) : ∀ (m k : Nat) (ye : Int32) (A : LA) (S : HC), k + m = 200 → SH S → A.1 ≤ 14 → XA S 17 A.1 A.2.1 fe ye A.2.2 → (∀ S', XS 17 S S' → post (brF fe m k A) S') → LX7_born_13 ln post (m + 1) S 0 (nI (k + 1)) := by
  intro m
  induction m with
  | zero =>
    intro k ye A S hk hs h14 hx h
    rw [LX7_born_13]
    dsimp only
    have e : k = 200 := by omega
    subst e
    rw [if_pos (by decide)]
    have q := h S (XS.rf _ _)
    rw [brF] at q
    exact q
  | succ m ih =>
    intro k ye A S hk hs h14 hx h
    rw [LX7_born_13]
    dsimp only
    rw [if_neg (show ¬ (200 : Int32) < nI (k + 1) from nI_nlt (a := 200) (by omega) (by decide)), sh0_3 hs, dn_e]
    refine p_pass hs hl (Or.inr (Or.inr (Or.inl rfl))) hx h14 (fun S1 hx1 hd1 => ?_)
    obtain ⟨l1, l2, l3⟩ := yN_le (f := A.2.1) (fe := fe) (z := A.2.2) h14
    rw [brF] at h
    by_cases e : yN A.1 A.2.1 fe A.2.2 = A.1
    · rw [if_pos e, if_pos rfl, lt_e, nI_1]
      rw [if_pos e] at h
      exact ih (k + 1) _ (yN A.1 A.2.1 fe A.2.2, yF A.1 A.2.1 fe A.2.2, yZ A.1 A.2.1 fe A.2.2) S1 (by omega) (hd1.sh hs) l1 hx1 (fun S2 hd2 => h S2 (hd1.tr hd2))
    · rw [if_neg e, if_neg (by decide)]
      rw [if_neg e] at h
      exact h S1 hd1
