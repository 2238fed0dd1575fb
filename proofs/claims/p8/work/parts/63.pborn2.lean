/-! what is thought, on; step born -/
/-- what the reference changes while it thinks -/
def TM (S S' : HC) : Prop := (∀ r k, r ≠ 69 → r ≠ 72 → r ≠ 80 → r ≠ 81 → hI S' r k = hI S r k) ∧ (∀ k, 89 ≤ k ∨ k = 4 → hI S' 69 k = hI S 69 k) ∧ ∀ r k, hR S' r k = hR S r k
theorem TM.rf (S : HC) : TM S S := ⟨fun _ _ _ _ _ _ => rfl, fun _ _ => rfl, fun _ _ => rfl⟩
theorem TM.tr {S S' S'' : HC} (h : TM S S') (h2 : TM S' S'') : TM S S'' := ⟨fun r k u1 u2 u3 u4 => (h2.1 r k u1 u2 u3 u4).trans (h.1 r k u1 u2 u3 u4), fun k q => (h2.2.1 k q).trans (h.2.1 k q), fun r k => (h2.2.2 r k).trans (h.2.2 r k)⟩
theorem MS.tm {S S' : HC} (h : MS S S') : TM S S' := ⟨fun r k u _ _ _ => h.1 r k u, h.2.1, h.2.2⟩
theorem MC.tm {S S' : HC} (h : MC S S') : TM S S' := ⟨fun r k _ u2 u3 u4 => h.1 r k u2 u3 u4, fun k _ => h.1 _ _ (by decide) (by decide) (by decide), h.2⟩
theorem TM.sh {S S' : HC} (h : TM S S') (hs : SH S) : SH S' := hs.of (fun _ _ => h.2.2 _ _)
theorem TM.back {S0 S S1 S2 S3 : HC} (h0 : Sm S0 S) (f1 : Fl S S1 73 0 89 (hI S 69)) (t : TM S1 S2) (f2 : Fl S2 S3 69 0 89 (hI S2 73)) : Sm S0 S3 := by
  refine h0.tr ⟨fun r k u => ?_, fun r k _ _ _ => by rw [f2.2, t.2.2, f1.2]⟩
  by_cases e : r = 69
  · subst e
    by_cases e2 : k < 89
    · rw [f2.i (by omega) e2, t.1 73 k (by decide) (by decide) (by decide) (by decide), f1.i (by omega) e2]
    · rw [f2.x (by omega), t.2.1 k (by omega), f1.o (by decide)]
  · unfold sc at u
    rw [f2.o e, t.1 r k e (by omega) (by omega) (by omega), f1.o (by omega)]
theorem BC.sm {S S' : HC} {b : Nat} (h : BC S S' 17 b) : Sm S S' := ⟨fun r k u => h.1 r k (fun v => u (by unfold sc; omega)), fun r k _ u _ => h.2.2.2.1 r k (by omega)⟩
theorem XS.sm {S S' : HC} (h : XS 17 S S') : Sm S S' := ⟨fun r k u => h.1 r k (fun v => u (by unfold sc; omega)), fun r k _ _ _ => h.2.2 r k⟩
theorem XA.bc {S S' : HC} {b1 b2 n : Nat} {f : Nat → Nat → Int32} {fe ye z : Int32} (h : XA S b2 n f fe ye z) (h14 : n ≤ 14) (c : BC S S' b1 b2) : XA S' b1 n f fe ye z := by
  obtain ⟨x1, x2, x3, x4, x5⟩ := h
  refine ⟨by rw [c.2.2.1 6 (by omega)]; exact x1, fun k hk j hj => ?_, by rw [c.2.2.1 7 (by omega)]; exact x3, by rw [c.2.2.1 8 (by omega)]; exact x4, by rw [c.2.2.1 9 (by omega)]; exact x5⟩
  rw [← x2 k hk j hj]
  exact c.2.1 k j hk (by omega)
theorem MA.sm {S S' : HC} {n : Nat} {f : Nat → Nat → Int32} {fe ye z : Int32} (h : MA S n f fe ye z) (h14 : n ≤ 14) (e : Sm S S') : MA S' n f fe ye z := h.ag h14 (fun k _ => e.1 69 k (by unfold sc; omega))
theorem MA.fl {S S' : HC} {n : Nat} {f : Nat → Nat → Int32} {fe ye z : Int32} {g : Nat → Int32} (h : MA S n f fe ye z) (h14 : n ≤ 14) (e : Fl S S' 73 0 89 g) : MA S' n f fe ye z := h.ag h14 (fun k _ => e.o (by decide))
theorem p_mborn {ln : Nat → Nat} {fe : Int32} {n0 : Nat} {post : Int32 → HC → Prop} (hl : LN ln) (h14 : n0 ≤ 14) : ∀ (m k : Nat) (ye : Int32) (A : LA) (S : HC), k + m = 200 → SH S → A.1 = n0 → MA S A.1 A.2.1 fe ye A.2.2 → (∀ S', MS S S' → wpX8_putsBack ln S' 68 fun S => post (brF fe m k A) S) → LX8_born_13 ln post (m + 1) S 68 (nI n0) (nI k) := by
  intro m
  induction m with
  | zero =>
    intro k ye A S hk hs hA hx h
    rw [LX8_born_13]
    dsimp only
    have e : k = 200 := by omega
    subst e
    unfold BX8_born_40 BX8_born_56
    rw [if_pos (by decide), sh68_0 hs, dn_e, ln69 hl, al_l1 (by decide) (by decide), hx.1, hA, if_pos rfl]
    have q := h S (MS.rf _)
    rw [brF] at q
    exact q
  | succ m ih =>
    intro k ye A S hk hs hA hx h
    rw [LX8_born_13]
    dsimp only
    rw [if_neg (show ¬ (200 : Int32) ≤ nI k from nI_ge (b := 200) (by omega) (by decide)), sh68_0 hs, dn_e, ln69 hl, al_l1 (by decide) (by decide), hx.1, if_pos (by rw [hA])]
    refine p_year hs hl hx (by omega) (fun S1 hx1 hd1 => ?_)
    obtain ⟨l1, l2, l3⟩ := yN_le (n := A.1) (f := A.2.1) (fe := fe) (z := A.2.2) (by omega)
    rw [lt_e, nI_1]
    rw [brF] at h
    by_cases e : yN A.1 A.2.1 fe A.2.2 = A.1
    · rw [if_pos e] at h
      exact ih (k + 1) _ (yN A.1 A.2.1 fe A.2.2, yF A.1 A.2.1 fe A.2.2, yZ A.1 A.2.1 fe A.2.2) S1 (by omega) (hd1.sh hs) (by dsimp only; omega) hx1 (fun S2 hd2 => h S2 (hd1.tr hd2))
    · rw [if_neg e] at h
      have hs1 := hd1.sh hs
      have ne : ¬ nI (yN A.1 A.2.1 fe A.2.2) = nI n0 := fun q => by
        have := (nI_eq (by omega) (by omega)).mp q
        omega
      have fin : BX8_born_40 ln post S1 68 (nI n0) (nI (k + 1)) := by
        unfold BX8_born_40 BX8_born_56
        rw [sh68_0 hs1, dn_e, ln69 hl, al_l1 (by decide) (by decide), hx1.1, if_neg ne]
        exact h S1 hd1
      rw [LX8_born_13]
      dsimp only
      rw [sh68_0 hs1, dn_e, ln69 hl, al_l1 (by decide) (by decide), hx1.1, if_neg ne]
      split
      · exact fin
      · exact fin
theorem s_born {N : Nat} {ln : Nat → Nat} {S : HC} (h : PI N ln S) : wpX7_born ln S 0 fun v S => wpX8_born ln S 68 fun w S => OK N ln v w S := by
  obtain ⟨⟨hs, hl, -, -⟩, ⟨⟨n, hn⟩, hw⟩, -⟩ := id h
  have h14 := hn.1
  obtain ⟨f, fe, ye, z, x1, x2, x3, x4, x5⟩ := hn.out
  unfold wpX7_born
  rw [sh0_3 hs, dn_e, sh0_0 hs, dn_e]
  refine p_become hs hl (Or.inr (Or.inr (Or.inl rfl))) (Or.inl rfl) (by omega) (fun S1 f1 => ?_)
  have hs1 : SH S1 := hs.sm f1.sm
  have y1 : XA S1 17 n f fe ye z := x1.bc h14 f1
  refine ⟨201, p_xborn hl 200 0 ye (n, f, z) S1 (by omega) hs1 h14 y1 (fun S2 d2 => ?_)⟩
  have s2 : Sm S S2 := f1.sm.tr d2.sm
  have hs2 := hs.sm s2
  have m2 : MA S2 n f fe ye z := x2.sm h14 s2
  unfold wpX8_born
  try dsimp only
  refine p_thinks hs2 hl (fun S3 f3 => ?_)
  have m3 := m2.fl h14 f3
  have hs3 := f3.sh hs2
  rw [sh68_0 hs3, dn_e, ln69 hl, al_l1 (by decide) (by decide), m3.1]
  refine ⟨201, p_mborn hl h14 200 0 ye (n, f, z) S3 (by omega) hs3 rfl m3 (fun S4 d4 => ?_)⟩
  exact p_putsBack (d4.sh hs3) hl (fun S5 f5 => ⟨rfl, h.sm (TM.back s2 f3 d4.tm f5)⟩)
