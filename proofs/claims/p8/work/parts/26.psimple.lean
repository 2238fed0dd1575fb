/-! steps: calls that only look at numbers and set one -/
/-- the two answers are one, and the relation holds on -/
def OK (N : Nat) (ln : Nat → Nat) (v w : Int32) (S : HC) : Prop := v = w ∧ PI N ln S
theorem nr {α : Type} {p : Prop} {a b : α} (h : ¬ p) (e : p) : a = b := absurd e h
theorem ge_of {x : Int32} {n : Nat} (hn : n < 2 ^ 31) (h : 0 ≤ x ∧ x < nI n) : ∃ j, j < n ∧ x = nI j := by
  rcases i_in x n hn with h2 | h2 | h2
  · exact h2
  · exact absurd h2 (Int32.not_lt.mpr h.1)
  · exact absurd h2 (Int32.not_le.mpr h.2)
theorem s_seed {N : Nat} {ln : Nat → Nat} {S : HC} (h : PI N ln S) (a1 : Int32) : wpX7_seed ln S 0 a1 fun v S => wpX8_seed ln S 68 a1 fun w S => OK N ln v w S := by
  obtain ⟨⟨hs, hl, -, -⟩, ⟨⟨n, hn⟩, hw⟩, -⟩ := id h
  unfold wpX7_seed wpX8_seed
  simp only [sh0_0 hs, dn_e, lt_e]
  rw [show (0 : Int32) = nI 0 from rfl, p_becomes (hs.sI _ _ _) hl (by decide)]
  refine ⟨by rw [hI_row (by decide)]; exact hn.2.2.2.2.2.2.2, h.now (fun _ _ => rfl) (fun r k q => by rw [hI_row (by omega), hI_row (by omega)]) ⟨⟨n, hn.scal (fun r k q1 q2 => by rw [hI_row (by omega), hI_row (by omega)]) (by rw [hI_row (by decide), hI_ne (by decide)]) (by rw [hI_ne (by decide), hI_row (by decide)]) (fun k q => by rw [hI_ne (by omega), hI_row (by decide)]) ?_ ?_ ?_⟩, hw.ag (fun r k q => by rw [hI_row (by omega), hI_row (by omega)]) (fun _ _ _ => rfl) (fun k q => by rw [hI_ne (by omega), hI_row (by omega)]) (by rw [hI_row (by decide), hI_ne (by decide)]) (by rw [hI_ne (by decide), hI_row (by decide)]) (fun _ => rfl)⟩⟩
  · rw [hI_row (by decide), hI_ne (by decide), hI_ne (by decide), hI_row (by decide)]; exact hn.2.2.2.2.2.1
  · rw [hI_row (by decide), hI_ne (by decide), hI_ne (by decide), hI_row (by decide)]; exact hn.2.2.2.2.2.2.1
  · rw [hI_row (by decide), hI_self, hI_self]
theorem s_fertile {N : Nat} {ln : Nat → Nat} {S : HC} (h : PI N ln S) (a1 : Int32) : wpX7_fertile ln S 0 a1 fun v S => wpX8_fertile ln S 68 a1 fun w S => OK N ln v w S := by
  obtain ⟨⟨hs, hl, -, -⟩, ⟨⟨n, hn⟩, hw⟩, -⟩ := id h
  unfold wpX7_fertile wpX8_fertile BX7_fertile_10
  simp only [sh0_0 hs, dn_e, lt_e, p_in]
  by_cases h1 : a1 < 0
  · rw [if_pos h1, bI_f (fun q => absurd h1 (Int32.not_lt.mpr q.1)), if_pos rfl]
    exact ⟨rfl, h⟩
  rw [if_neg h1]
  by_cases h2 : a1 ≤ 100
  · rw [if_pos h2, bI_t ⟨Int32.not_lt.mp h1, h2⟩, if_neg (by decide), show (3 : Int32) = nI 3 from rfl, p_becomes (hs.sI _ _ _) hl (by decide)]
    obtain ⟨c, hc, rfl⟩ := nI_of2 (n := 100) (M := 100) rfl h1 h2
    refine ⟨by rw [hI_row (by decide)]; exact hn.2.2.2.2.2.1.1, h.now (fun _ _ => rfl) (fun r k q => by rw [hI_row (by omega), hI_row (by omega)]) ⟨⟨n, hn.scal (fun r k q1 q2 => by rw [hI_row (by omega), hI_row (by omega)]) (by rw [hI_row (by decide), hI_ne (by decide)]) (by rw [hI_ne (by decide), hI_row (by decide)]) (fun k q => by rw [hI_ne (by omega), hI_row (by decide)]) ?_ ?_ ?_⟩, hw.ag (fun r k q => by rw [hI_row (by omega), hI_row (by omega)]) (fun _ _ _ => rfl) (fun k q => by rw [hI_ne (by omega), hI_row (by omega)]) (by rw [hI_row (by decide), hI_ne (by decide)]) (by rw [hI_ne (by decide), hI_row (by decide)]) (fun _ => rfl)⟩⟩
    · rw [hI_row (by decide), hI_self, hI_self]; exact ⟨rfl, c, hc, rfl⟩
    · rw [hI_row (by decide), hI_ne (by decide), hI_ne (by decide), hI_row (by decide)]; exact hn.2.2.2.2.2.2.1
    · rw [hI_row (by decide), hI_ne (by decide), hI_ne (by decide), hI_row (by decide)]; exact hn.2.2.2.2.2.2.2
  · rw [if_neg h2, bI_f (fun q => h2 q.2), if_pos rfl]
    exact ⟨rfl, h⟩
theorem s_tell {N : Nat} {ln : Nat → Nat} {S : HC} (h : PI N ln S) (a1 : Int32) : wpX7_tell ln S 0 a1 fun v S => wpX8_tell ln S 68 a1 fun w S => OK N ln v w S := by
  obtain ⟨⟨hs, hl, -, -⟩, -, -, -, -, -, ⟨w, w1, w2, w3, w4⟩, -⟩ := id h
  unfold wpX7_tell wpX8_tell BX7_tell_16
  simp only [sh0_8 hs, dn_e, lt_e, w2]
  rw [if_neg (nI_pos (by omega))]
  by_cases hw : w < 60
  · rw [if_pos (show nI w < 60 from nI_lt (b := 60) hw (by decide)), ln43 hl, as_e hw (by decide)]
    have e3 : hI (sI (sI S 43 w a1) 0 9 (hI (sI S 43 w a1) 0 9 + 1)) 68 33 = nI w := by rw [hI_row (by decide), hI_row (by decide)]; exact w3
    simp only [sh68_32 ((hs.sI 43 w a1).sI 0 9 _), dn_e, e3]
    rw [if_neg (show ¬ nI w = 60 from fun q => by have := (nI_eq (b := 60) (by omega) (by decide)).mp q; omega), ln90 hl, as_e hw (by decide)]
    have e4 : hI (sI S 43 w a1) 0 9 = nI w := by rw [hI_row (by decide)]; exact w2
    rw [e4]
    have e5 : hI (sI (sI (sI S 43 w a1) 0 9 (nI w + 1)) 90 w a1) 68 33 = nI w := by rw [hI_row (by decide), hI_row (by decide), hI_row (by decide)]; exact w3
    rw [e5, hI_self, hI_self]
    refine ⟨rfl, h.wai (fun _ _ => rfl) (fun r k q => by rw [hI_ne (by omega), hI_row (by omega), hI_ne (by omega), hI_row (by omega)]) ⟨w + 1, by omega, ?_, ?_, fun j hj => ?_⟩⟩
    · rw [hI_row (by decide), hI_row (by decide), hI_self]; exact nI_1 w
    · rw [hI_self]; exact nI_1 w
    · by_cases e : j = w
      · subst e; simp [hI_sI]
      · simp [hI_sI, e]
        exact w4 j (by omega)
  · have hw2 : w = 60 := by omega
    subst hw2
    rw [if_neg (by decide), w3, if_pos (show nI 60 = 60 from rfl)]
    exact ⟨rfl, h⟩
theorem s_trim {N : Nat} {ln : Nat → Nat} {S : HC} (h : PI N ln S) (a1 : Int32) : wpX7_trim ln S 0 a1 fun v S => wpX8_trim ln S 68 a1 fun w S => OK N ln v w S := by
  obtain ⟨⟨hs, hl, -, -⟩, -, -, ⟨k, k1, k2, k3, k4⟩, -⟩ := id h
  unfold wpX7_trim wpX8_trim BX7_trim_18
  simp only [sh0_5 hs, sh37_0 hs, dn_e, lt_e, p_in, k2]
  by_cases h1 : a1 < 0
  · rw [if_pos h1, bI_f (fun q => absurd h1 (Int32.not_lt.mpr q.1)), if_pos rfl]
    exact ⟨rfl, h⟩
  rw [if_neg h1]
  by_cases h2 : a1 ≤ nI k
  · rw [if_pos h2, hI_row (by decide), k3, bI_t ⟨Int32.not_lt.mp h1, h2⟩, if_neg (by decide)]
    obtain ⟨c, hc, rfl⟩ := nI_of2 (n := k) (M := nI k) (nI_toInt (by omega)) h1 h2
    refine ⟨rfl, h.tap (fun _ _ => rfl) (fun r q1 q => by rw [hI_ne (by omega), hI_ne (by omega)]) ⟨c, by omega, ?_, ?_, fun j hj => ?_⟩⟩
    · rw [hI_row (by decide), hI_self]
    · rw [hI_self]
    · rw [hI_row (by decide), hI_row (by decide), hI_row (by decide), hI_row (by decide)]
      exact k4 j (by omega)
  · rw [if_neg h2, k3, bI_f (fun q => h2 q.2), if_pos rfl]
    exact ⟨rfl, h⟩
/-- a change of one thing of one of the people, on both sides -/
theorem PI.pers {N : Nat} {ln : Nat → Nat} {S : HC} (h : PI N ln S) {n : Nat} (hn : LR S 1 69 n) {k j : Nat} {v : Int32} (hk : k < 6) (hj : j < n) (hv : VA k j v) : PI N ln (sI (sI S (2 + k) j v) 69 (5 + 6 * j + k) v) := by
  have hn14 := hn.1
  have e : (1 + 1 + k) = 2 + k := by omega
  have hp := hn.pers (by omega) hk hj hv
  rw [e] at hp
  refine h.now (fun _ _ => rfl) (fun r i q => by rw [hI_row (by omega), hI_row (by omega)]) ⟨⟨n, hp⟩, h.2.1.2.ag (fun r i q => by rw [hI_row (by omega), hI_row (by omega)]) (fun _ _ _ => rfl) (fun i q => by rw [hI_ne (by omega), hI_row (by omega)]) (by rw [hI_row (by decide), hI_row (by omega)]) (by rw [hI_ne (by omega), hI_row (by omega)]) (fun _ => rfl)⟩
theorem s_turns {N : Nat} {ln : Nat → Nat} {S : HC} (h : PI N ln S) (a1 a2 : Int32) : wpX7_turns ln S 0 a1 a2 fun v S => wpX8_turns ln S 68 a1 a2 fun w S => OK N ln v w S := by
  obtain ⟨⟨hs, hl, -, -⟩, ⟨⟨n, hn⟩, hw⟩, -⟩ := id h
  unfold wpX7_turns wpX8_turns BX7_turns_18 BX8_turns_31
  simp only [sh0_0 hs, sh1_0 hs, dn_e, lt_e, p_in, p_has, p_isKind]
  rcases i_in a1 n (by have := hn.1; omega) with ⟨j, hj, rfl⟩ | hx
  · rw [hasT hn.2.1 hn.1 hj, if_neg (by decide)]
    by_cases h2 : 0 ≤ a2 ∧ a2 < 6
    · rw [bI_t h2, if_neg (by decide), ln2 hl, al_e (by have := hn.1; omega) (by decide), as_e (by have := hn.1; omega) (by decide)]
      simp only [p_isOne (hs.sI 2 j a2) hl]
      rw [oneT (n := n) (by rw [hI_row (by decide)]; exact hn.2.2.1) hn.1 hj, if_neg (by decide)]
      obtain ⟨c, hc, rfl⟩ := ge_of (n := 6) (by decide) h2
      rw [bI_t ⟨h2.1, (show nI c ≤ 5 from nI_le (b := 5) (by omega) (by decide))⟩, if_neg (by decide), show (6 : Int32) * nI j = nI (6 * j) from pk_mul 6 j, show (5 : Int32) + nI (6 * j) = nI (5 + 6 * j) from nI_add 5 (6 * j), p_becomes (hs.sI _ _ _) hl (by have := hn.1; omega)]
      refine ⟨?_, h.pers (k := 0) hn (by decide) hj ⟨fun _ => ⟨c, hc, rfl⟩, by omega, by omega, by omega, by omega⟩⟩
      rw [hI_row (by decide)]
      exact hn.2.2.2.1 0 (by decide) j hj
    · rw [bI_f h2, if_pos rfl]
      simp only [p_isOne hs hl]
      rw [oneT hn.2.2.1 hn.1 hj, if_neg (by decide), bI_f (fun q => h2 ⟨q.1, Int32.lt_of_le_of_lt q.2 (by decide)⟩), if_pos rfl]
      exact ⟨rfl, h⟩
  · rw [hasF hn.2.1 hx, if_pos rfl]
    simp only [p_isOne hs hl]
    rw [oneF hn.2.2.1 hn.1 hx, if_pos rfl]
    exact ⟨rfl, h⟩
