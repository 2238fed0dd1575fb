/-! a land told as numbers: n people, f their things, fertile, year, z -/
def XA (S : HC) (b n : Nat) (f : Nat → Nat → Int32) (fe ye z : Int32) : Prop := hI S b 6 = nI n ∧ AG n (xf S b) f ∧ hI S b 7 = fe ∧ hI S b 8 = ye ∧ hI S b 9 = z
def MA (S : HC) (n : Nat) (f : Nat → Nat → Int32) (fe ye z : Int32) : Prop := hI S 69 1 = nI n ∧ AG n (mf S 69) f ∧ hI S 69 3 = fe ∧ hI S 69 2 = ye ∧ hI S 69 0 = z
def upP (f : Nat → Nat → Int32) (n : Nat) (k fa mo sx fi : Int32) : Nat → Nat → Int32 := fun q j => if j = n then (if q = 0 then k else if q = 1 then fa else if q = 2 then mo else if q = 3 then sx else if q = 4 then fi else 0) else f q j
theorem LR.out {S : HC} {b n : Nat} (h : LR S b 69 n) : ∃ f fe ye z, XA S b n f fe ye z ∧ MA S n f fe ye z ∧ VP n f ∧ (∃ c, c ≤ 100 ∧ fe = nI c) ∧ ∃ y, y ≤ 9999 ∧ ye = nI y := by
  obtain ⟨a1, a2, a3, a4, a5, ⟨a6, a6'⟩, ⟨a7, a7'⟩, a8⟩ := h
  exact ⟨mf S 69, hI S 69 3, hI S 69 2, hI S 69 0, ⟨a2, a4, a6, a7, a8⟩, ⟨a3, fun _ _ _ _ => rfl, rfl, rfl, rfl⟩, a5, a6', a7'⟩
theorem AG.sy {n : Nat} {f g : Nat → Nat → Int32} (h : AG n f g) : AG n g f := fun k hk j hj => (h k hk j hj).symm
theorem AG.tr {n : Nat} {f g e : Nat → Nat → Int32} (h : AG n f g) (h2 : AG n g e) : AG n f e := fun k hk j hj => (h k hk j hj).trans (h2 k hk j hj)
theorem VP.ag {n : Nat} {f g : Nat → Nat → Int32} (h : VP n f) (e : AG n g f) : VP n g := fun k j hk hj => by rw [e k hk j hj]; exact h k j hk hj
theorem LR.of {S : HC} {b n : Nat} {f : Nat → Nat → Int32} {fe ye z : Int32} (h14 : n ≤ 14) (hx : XA S b n f fe ye z) (hm : MA S n f fe ye z) (hv : VP n f) (hfe : ∃ c, c ≤ 100 ∧ fe = nI c) (hye : ∃ y, y ≤ 9999 ∧ ye = nI y) : LR S b 69 n := by
  obtain ⟨x1, x2, x3, x4, x5⟩ := hx
  obtain ⟨m1, m2, m3, m4, m5⟩ := hm
  exact ⟨h14, x1, m1, x2.tr m2.sy, hv.ag m2, ⟨x3.trans m3.symm, by rw [m3]; exact hfe⟩, ⟨x4.trans m4.symm, by rw [m4]; exact hye⟩, x5.trans m5.symm⟩
theorem VP.add {n : Nat} {f : Nat → Nat → Int32} {k fa mo sx fi : Int32} (h : VP n f) (h0 : ∃ c, c < 6 ∧ k = nI c) (h1 : fa = -1 ∨ ∃ p, p < n ∧ fa = nI p) (h2 : mo = -1 ∨ ∃ p, p < n ∧ mo = nI p) (h3 : sx = 0 ∨ sx = 1) (h4 : ∃ c, c < 8 ∧ fi = nI c) : VP (n + 1) (upP f n k fa mo sx fi) := by
  intro q j hq hj
  by_cases e : j = n
  · subst e
    rcases (show q = 0 ∨ q = 1 ∨ q = 2 ∨ q = 3 ∨ q = 4 ∨ q = 5 by omega) with rfl | rfl | rfl | rfl | rfl | rfl
    · simp only [upP, if_true]; exact ⟨fun _ => h0, by omega, by omega, by omega, by omega⟩
    · simp [upP]; exact ⟨by omega, fun _ => h1, by omega, by omega, by omega⟩
    · simp [upP]; exact ⟨by omega, fun _ => h2, by omega, by omega, by omega⟩
    · simp [upP]; exact ⟨by omega, by omega, fun _ => h3, by omega, by omega⟩
    · simp [upP]; exact ⟨by omega, by omega, by omega, fun _ => h4, by omega⟩
    · simp [upP]; exact ⟨by omega, by omega, by omega, by omega, fun _ => ⟨0, by decide, rfl⟩⟩
  · simp only [upP, if_neg e]; exact h q j hq (by omega)
theorem xadd_o {S : HC} {b n : Nat} {k fa mo sx fi : Int32} {r i : Nat} (h : ¬ (b ≤ r ∧ r ≤ b + 6)) : hI (xadd S b n k fa mo sx fi) r i = hI S r i := by
  unfold xadd
  rw [hI_row (by omega), hI_row (by omega), hI_row (by omega), hI_row (by omega), hI_row (by omega), hI_row (by omega), hI_row (by omega)]
theorem xadd_s {S : HC} {b n : Nat} {k fa mo sx fi : Int32} {i : Nat} (h : i ≠ 6) : hI (xadd S b n k fa mo sx fi) b i = hI S b i := by
  unfold xadd
  rw [hI_ne (by omega), hI_row (by omega), hI_row (by omega), hI_row (by omega), hI_row (by omega), hI_row (by omega), hI_row (by omega)]
theorem madd_o {S : HC} {n : Nat} {k fa mo sx fi : Int32} {r i : Nat} (h : ¬ (r = 69 ∧ (i = 1 ∨ (5 + 6 * n ≤ i ∧ i < 11 + 6 * n)))) : hI (madd S n k fa mo sx fi) r i = hI S r i := by
  unfold madd
  rw [hI_ne (by omega), hI_ne (by omega), hI_ne (by omega), hI_ne (by omega), hI_ne (by omega), hI_ne (by omega), hI_ne (by omega)]
theorem XA.add {S : HC} {b n : Nat} {f : Nat → Nat → Int32} {fe ye z k fa mo sx fi : Int32} (h : XA S b n f fe ye z) : XA (xadd S b n k fa mo sx fi) b (n + 1) (upP f n k fa mo sx fi) fe ye z := by
  obtain ⟨x1, x2, x3, x4, x5⟩ := h
  refine ⟨hI_self _ _ _ _, fun q hq j hj => ?_, by rw [xadd_s (by decide)]; exact x3, by rw [xadd_s (by decide)]; exact x4, by rw [xadd_s (by decide)]; exact x5⟩
  by_cases e : j = n
  · subst e
    rcases (show q = 0 ∨ q = 1 ∨ q = 2 ∨ q = 3 ∨ q = 4 ∨ q = 5 by omega) with rfl | rfl | rfl | rfl | rfl | rfl <;> simp [xf, xadd, upP, hI_sI] <;> (intros; omega)
  · have e2 : xf (xadd S b n k fa mo sx fi) b q j = xf S b q j := by
      unfold xf xadd
      rw [hI_row (by omega), hI_ne (by omega), hI_ne (by omega), hI_ne (by omega), hI_ne (by omega), hI_ne (by omega), hI_ne (by omega)]
    rw [e2, x2 q hq j (by omega)]
    simp only [upP, if_neg e]
theorem MA.add {S : HC} {n : Nat} {f : Nat → Nat → Int32} {fe ye z k fa mo sx fi : Int32} (h : MA S n f fe ye z) : MA (madd S n k fa mo sx fi) (n + 1) (upP f n k fa mo sx fi) fe ye z := by
  obtain ⟨x1, x2, x3, x4, x5⟩ := h
  refine ⟨hI_self _ _ _ _, fun q hq j hj => ?_, by rw [madd_o (by omega)]; exact x3, by rw [madd_o (by omega)]; exact x4, by rw [madd_o (by omega)]; exact x5⟩
  by_cases e : j = n
  · subst e
    rcases (show q = 0 ∨ q = 1 ∨ q = 2 ∨ q = 3 ∨ q = 4 ∨ q = 5 by omega) with rfl | rfl | rfl | rfl | rfl | rfl <;> simp [mf, madd, upP, hI_sI] <;> (intros; omega)
  · have e2 : mf (madd S n k fa mo sx fi) 69 q j = mf S 69 q j := by
      unfold mf
      rw [madd_o (by omega)]
    rw [e2, x2 q hq j (by omega)]
    simp only [upP, if_neg e]
theorem XA.ag {S S' : HC} {b n : Nat} {f : Nat → Nat → Int32} {fe ye z : Int32} (h : XA S b n f fe ye z) (hs : ∀ r k, b ≤ r → r ≤ b + 6 → hI S' r k = hI S r k) : XA S' b n f fe ye z := by
  obtain ⟨x1, x2, x3, x4, x5⟩ := h
  exact ⟨by rw [hs _ _ (by omega) (by omega)]; exact x1, fun q hq j hj => by rw [← x2 q hq j hj]; exact hs _ _ (by omega) (by omega), by rw [hs _ _ (by omega) (by omega)]; exact x3, by rw [hs _ _ (by omega) (by omega)]; exact x4, by rw [hs _ _ (by omega) (by omega)]; exact x5⟩
theorem MA.ag {S S' : HC} {n : Nat} {f : Nat → Nat → Int32} {fe ye z : Int32} (h : MA S n f fe ye z) (h14 : n ≤ 14) (hs : ∀ k, k < 89 → hI S' 69 k = hI S 69 k) : MA S' n f fe ye z := by
  obtain ⟨x1, x2, x3, x4, x5⟩ := h
  exact ⟨by rw [hs _ (by omega)]; exact x1, fun q hq j hj => by rw [← x2 q hq j hj]; exact hs _ (by omega), by rw [hs _ (by omega)]; exact x3, by rw [hs _ (by omega)]; exact x4, by rw [hs _ (by omega)]; exact x5⟩
theorem s_person {N : Nat} {ln : Nat → Nat} {S : HC} (h : PI N ln S) (a1 a2 a3 a4 a5 : Int32) : wpX7_person ln S 0 a1 a2 a3 a4 a5 fun v S => wpX8_person ln S 68 a1 a2 a3 a4 a5 fun w S => OK N ln v w S := by
  obtain ⟨⟨hs, hl, -, -⟩, ⟨⟨n, hn⟩, hw⟩, -⟩ := id h
  have h14 := hn.1
  unfold wpX7_person wpX8_person BX7_person_31 BX7_person_53 BX8_person_45
  simp only [sh0_0 hs, dn_e, p_in, p_isKind, p_isCharge, p_mCharge]
  have e6 : bI (0 ≤ a1 ∧ a1 ≤ 5) = bI (0 ≤ a1 ∧ a1 < 6) := rngE (n := 6) (by decide) 6 (by decide)
  have e8 : bI (0 ≤ a5 ∧ a5 ≤ 7) = bI (0 ≤ a5 ∧ a5 < 8) := rngE (n := 8) (by decide) 8 (by decide)
  simp only [e6, e8]
  by_cases c1 : 0 ≤ a1 ∧ a1 < 6
  · rw [bI_t c1]
    simp only [if_neg (show ¬ (1 : Int32) = 0 by decide)]
    refine p_canBe hs hl (Or.inl rfl) hn.2.1 h14 (fun c2 => ?_) (fun c2 => ?_)
    · rw [if_neg (by decide)]
      simp only [sh0_0 hs, dn_e]
      refine p_canBe hs hl (Or.inl rfl) hn.2.1 h14 (fun c3 => ?_) (fun c3 => ?_)
      · rw [if_neg (by decide)]
        have m2 := (mayP.ag hn.2.2.2.1).mp c2
        have m3 := (mayP.ag hn.2.2.2.1).mp c3
        by_cases c4 : a4 < 0
        · rw [if_pos c4]
          refine p_mayBe hs hl hn.2.2.1 h14 (fun _ => ?_) (fun q => absurd m2 q)
          rw [if_neg (by decide)]
          refine p_mayBe hs hl hn.2.2.1 h14 (fun _ => ?_) (fun q => absurd m3 q)
          rw [if_neg (by decide), bI_f (fun q => absurd c4 (Int32.not_lt.mpr q.1)), if_pos rfl]
          exact ⟨rfl, h⟩
        rw [if_neg c4]
        by_cases c5 : 1 < a4
        · rw [if_pos c5]
          refine p_mayBe hs hl hn.2.2.1 h14 (fun _ => ?_) (fun q => absurd m2 q)
          rw [if_neg (by decide)]
          refine p_mayBe hs hl hn.2.2.1 h14 (fun _ => ?_) (fun q => absurd m3 q)
          rw [if_neg (by decide), bI_f (fun q => absurd c5 (Int32.not_lt.mpr q.2)), if_pos rfl]
          exact ⟨rfl, h⟩
        rw [if_neg c5]
        have b4 : 0 ≤ a4 ∧ a4 ≤ 1 := ⟨Int32.not_lt.mp c4, Int32.not_lt.mp c5⟩
        by_cases c6 : 0 ≤ a5 ∧ a5 < 8
        · simp only [bI_t c6, if_neg (show ¬ (1 : Int32) = 0 by decide), sh0_0 hs, dn_e]
          rw [p_hasRoom hn.2.1 h14]
          by_cases c7 : n < 14
          · rw [bI_t c7, if_neg (by decide), sh0_0 hs, dn_e, p_add hs hl (Or.inl rfl) hn.2.1 c7]
            generalize hS1 : xadd S 1 n a1 a2 a3 a4 a5 = S1
            have hs1 : SH S1 := by rw [← hS1]; exact hs
            have e1 : ∀ k, hI S1 69 k = hI S 69 k := fun k => by rw [← hS1]; exact xadd_o (by omega)
            have ef : mf S1 69 = mf S 69 := by funext k j; exact e1 _
            have en : hI S1 69 1 = nI n := by rw [e1]; exact hn.2.2.1
            refine p_mayBe hs1 hl en h14 (fun _ => ?_) (fun q => absurd (by rw [ef]; exact m2) q)
            rw [if_neg (by decide)]
            refine p_mayBe hs1 hl en h14 (fun _ => ?_) (fun q => absurd (by rw [ef]; exact m3) q)
            rw [if_neg (by decide), bI_t b4, if_neg (by decide), sh68_0 hs1, dn_e, ln69 hl, show (1 : Int32) = nI 1 from rfl, al_e (by decide) (by decide), en, if_neg (show ¬ nI n = 14 from fun q => by have := (nI_eq (b := 14) (by omega) (by decide)).mp q; omega), p_comes hs1 hl en c7]
            obtain ⟨f, fe, ye, z, x1, x2, x3, x4, x5⟩ := hn.out
            have y1 : XA S1 1 (n + 1) (upP f n a1 a2 a3 a4 a5) fe ye z := by rw [← hS1]; exact x1.add
            have y2 : MA S1 n f fe ye z := x2.ag h14 (fun k _ => e1 k)
            obtain ⟨d1, hd1, rfl⟩ := ge_of (n := 6) (by decide) c1
            obtain ⟨d5, hd5, rfl⟩ := ge_of (n := 8) (by decide) c6
            have par : ∀ {x sx : Int32}, mayP n (mf S 69) x sx → x = -1 ∨ ∃ p, p < n ∧ x = nI p := fun q => by
              rcases q with q | ⟨j, q1, q2, -⟩
              · exact Or.inl q
              · exact Or.inr ⟨j, q1, q2⟩
            have hsx : a4 = 0 ∨ a4 = 1 := by
              obtain ⟨u1, u2⟩ := b4
              simp only [i_le, i_eq] at *
              have : (0 : Int32).toInt = 0 := rfl
              have : (1 : Int32).toInt = 1 := rfl
              omega
            have hv := x3.add (k := nI d1) (fa := a2) (mo := a3) (sx := a4) (fi := nI d5) ⟨d1, hd1, rfl⟩ (par m2) (par m3) hsx ⟨d5, hd5, rfl⟩
            refine ⟨rfl, h.now (fun r k => by rw [← hS1]; rfl) (fun r k q => by rw [madd_o (by omega), ← hS1, xadd_o (by omega)]) ⟨⟨n + 1, LR.of c7 (y1.ag (fun r k q1 q2 => madd_o (by omega))) y2.add hv x4 x5⟩, hw.ag (fun r k q => by rw [madd_o (by omega), ← hS1, xadd_o (by omega)]) (fun r k _ => by rw [← hS1]; rfl) (fun k q => by rw [madd_o (by omega), e1]) (by rw [madd_o (by omega), ← hS1, xadd_s (by decide)]) (by rw [madd_o (by omega), e1]) (fun k => by rw [← hS1]; rfl)⟩⟩
          · have c8 : n = 14 := by omega
            subst c8
            rw [bI_f c7, if_pos rfl]
            refine p_mayBe hs hl hn.2.2.1 h14 (fun _ => ?_) (fun q => absurd m2 q)
            rw [if_neg (by decide)]
            refine p_mayBe hs hl hn.2.2.1 h14 (fun _ => ?_) (fun q => absurd m3 q)
            rw [if_neg (by decide), bI_t b4, if_neg (by decide), sh68_0 hs, dn_e, ln69 hl, show (1 : Int32) = nI 1 from rfl, al_e (by decide) (by decide), hn.2.2.1, if_pos (show nI 14 = 14 from rfl)]
            exact ⟨rfl, h⟩
        · simp only [bI_f c6, if_true]
          refine p_mayBe hs hl hn.2.2.1 h14 (fun _ => ?_) (fun q => absurd m2 q)
          rw [if_neg (by decide)]
          refine p_mayBe hs hl hn.2.2.1 h14 (fun _ => ?_) (fun q => absurd m3 q)
          rw [if_neg (by decide), bI_t b4, if_neg (by decide)]
          exact ⟨rfl, h⟩
      · rw [if_pos rfl]
        refine p_mayBe hs hl hn.2.2.1 h14 (fun _ => ?_) (fun q => absurd ((mayP.ag hn.2.2.2.1).mp c2) q)
        rw [if_neg (by decide)]
        refine p_mayBe hs hl hn.2.2.1 h14 (fun q => absurd ((mayP.ag hn.2.2.2.1).mpr q) c3) (fun _ => ?_)
        rw [if_pos rfl]
        exact ⟨rfl, h⟩
    · rw [if_pos rfl]
      refine p_mayBe hs hl hn.2.2.1 h14 (fun q => absurd ((mayP.ag hn.2.2.2.1).mpr q) c2) (fun _ => ?_)
      rw [if_pos rfl]
      exact ⟨rfl, h⟩
  · rw [bI_f c1]
    simp only [if_true]
    exact ⟨rfl, h⟩
