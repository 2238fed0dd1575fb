-- 62.pborn.lean.txt
/-! what is thought, and put back; step born -/
theorem p_thinks {ln : Nat → Nat} {S : HC} {post : HC → Prop} (hs : SH S) (hl : LN ln) (h : ∀ S', Fl S S' 73 0 89 (hI S 69) → post S') : wpX8_thinks ln S 68 post := by
  have key : ∀ m j S', j + m = 89 → Fl S S' 73 0 j (hI S 69) → LX8_thinks_2 ln post (m + 1) S' 68 (nI j) := by
    intro m
    induction m with
    | zero =>
      intro j S' hj hF
      have e : j = 89 := by omega
      subst e
      rw [LX8_thinks_2]
      dsimp only
      rw [if_pos (by decide)]
      exact h S' hF
    | succ m ih =>
      intro j S' hj hF
      rw [LX8_thinks_2]
      dsimp only
      rw [if_neg (show ¬ (89 : Int32) ≤ nI j from nI_ge (b := 89) (by omega) (by decide)), sh68_5 (hF.sh hs), dn_e, sh68_0 (hF.sh hs), dn_e, ln69 hl, al_e (by omega) (by decide), ln73 hl, as_e (by omega) (by decide), lt_e, nI_1]
      exact ih (j + 1) _ (by omega) (hF.step (by omega) (hF.o (by decide)))
  exact ⟨90, key 89 0 S (by omega) (Fl.rf _ _ _ _)⟩
theorem p_putsBack {ln : Nat → Nat} {S : HC} {post : HC → Prop} (hs : SH S) (hl : LN ln) (h : ∀ S', Fl S S' 69 0 89 (hI S 73) → post S') : wpX8_putsBack ln S 68 post := by
  have key : ∀ m j S', j + m = 89 → Fl S S' 69 0 j (hI S 73) → LX8_putsBack_2 ln post (m + 1) S' 68 (nI j) := by
    intro m
    induction m with
    | zero =>
      intro j S' hj hF
      have e : j = 89 := by omega
      subst e
      rw [LX8_putsBack_2]
      dsimp only
      rw [if_pos (by decide)]
      exact h S' hF
    | succ m ih =>
      intro j S' hj hF
      rw [LX8_putsBack_2]
      dsimp only
      rw [if_neg (show ¬ (89 : Int32) ≤ nI j from nI_ge (b := 89) (by omega) (by decide)), sh68_0 (hF.sh hs), dn_e, sh68_5 (hF.sh hs), dn_e, ln73 hl, al_e (by omega) (by decide), ln69 hl, as_e (by omega) (by decide), lt_e, nI_1]
      exact ih (j + 1) _ (by omega) (hF.step (by omega) (hF.o (by decide)))
  exact ⟨90, key 89 0 S (by omega) (Fl.rf _ _ _ _)⟩
def brF (fe : Int32) : Nat → Nat → LA → Int32
  | 0, _, _ => -1000000005
  | m + 1, k, A => if yN A.1 A.2.1 fe A.2.2 = A.1 then brF fe m (k + 1) (yN A.1 A.2.1 fe A.2.2, yF A.1 A.2.1 fe A.2.2, yZ A.1 A.2.1 fe A.2.2) else nI (k + 1)
theorem p_xborn {ln : Nat → Nat} {fe : Int32} {post : Int32 → HC → Prop} (hl : LN ln) : ∀ (m k : Nat) (ye : Int32) (A : LA) (S : HC), k + m = 200 → SH S → A.1 ≤ 14 → XA S 17 A.1 A.2.1 fe ye A.2.2 → (∀ S', XS 17 S S' → post (brF fe m k A) S') → LX7_born_13 ln post (m + 1) S 0 (nI (k + 1)) := by
  intro m
  induction m with
  | zero =>
    intro k ye A S hk hs h14 hx h
    rw [LX7_born_13]
    dsimp only
    have e : k = 200 := by omega
    subst e
    rw [if_pos (by decide)]
    have q := h S (XS.rf _ _)
    rw [brF] at q
    exact q
  | succ m ih =>
    intro k ye A S hk hs h14 hx h
    rw [LX7_born_13]
    dsimp only
    rw [if_neg (show ¬ (200 : Int32) < nI (k + 1) from nI_nlt (a := 200) (by omega) (by decide)), sh0_3 hs, dn_e]
    refine p_pass hs hl (Or.inr (Or.inr (Or.inl rfl))) hx h14 (fun S1 hx1 hd1 => ?_)
    obtain ⟨l1, l2, l3⟩ := yN_le (f := A.2.1) (fe := fe) (z := A.2.2) h14
    rw [brF] at h
    by_cases e : yN A.1 A.2.1 fe A.2.2 = A.1
    · rw [if_pos e, if_pos rfl, lt_e, nI_1]
      rw [if_pos e] at h
      exact ih (k + 1) _ (yN A.1 A.2.1 fe A.2.2, yF A.1 A.2.1 fe A.2.2, yZ A.1 A.2.1 fe A.2.2) S1 (by omega) (hd1.sh hs) l1 hx1 (fun S2 hd2 => h S2 (hd1.tr hd2))
    · rw [if_neg e, if_neg (by decide)]
      rw [if_neg e] at h
      exact h S1 hd1
-- 63.pborn2.lean.txt
/-! what is thought, on; step born -/
/-- what the reference changes while it thinks -/
def TM (S S' : HC) : Prop := (∀ r k, r ≠ 69 → r ≠ 72 → r ≠ 80 → r ≠ 81 → hI S' r k = hI S r k) ∧ (∀ k, 89 ≤ k ∨ k = 4 → hI S' 69 k = hI S 69 k) ∧ ∀ r k, hR S' r k = hR S r k
theorem TM.rf (S : HC) : TM S S := ⟨fun _ _ _ _ _ _ => rfl, fun _ _ => rfl, fun _ _ => rfl⟩
theorem TM.tr {S S' S'' : HC} (h : TM S S') (h2 : TM S' S'') : TM S S'' := ⟨fun r k u1 u2 u3 u4 => (h2.1 r k u1 u2 u3 u4).trans (h.1 r k u1 u2 u3 u4), fun k q => (h2.2.1 k q).trans (h.2.1 k q), fun r k => (h2.2.2 r k).trans (h.2.2 r k)⟩
theorem MS.tm {S S' : HC} (h : MS S S') : TM S S' := ⟨fun r k u _ _ _ => h.1 r k u, h.2.1, h.2.2⟩
theorem MC.tm {S S' : HC} (h : MC S S') : TM S S' := ⟨fun r k _ u2 u3 u4 => h.1 r k u2 u3 u4, fun k _ => h.1 _ _ (by decide) (by decide) (by decide), h.2⟩
theorem TM.sh {S S' : HC} (h : TM S S') (hs : SH S) : SH S' := hs.of (fun _ _ => h.2.2 _ _)
theorem TM.back {S0 S S1 S2 S3 : HC} (h0 : Sm S0 S) (f1 : Fl S S1 73 0 89 (hI S 69)) (t : TM S1 S2) (f2 : Fl S2 S3 69 0 89 (hI S2 73)) : Sm S0 S3 := by
  refine h0.tr ⟨fun r k u => ?_, fun r k _ _ _ => by rw [f2.2, t.2.2, f1.2]⟩
  by_cases e : r = 69
  · subst e
    by_cases e2 : k < 89
    · rw [f2.i (by omega) e2, t.1 73 k (by decide) (by decide) (by decide) (by decide), f1.i (by omega) e2]
    · rw [f2.x (by omega), t.2.1 k (by omega), f1.o (by decide)]
  · unfold sc at u
    rw [f2.o e, t.1 r k e (by omega) (by omega) (by omega), f1.o (by omega)]
theorem BC.sm {S S' : HC} {b : Nat} (h : BC S S' 17 b) : Sm S S' := ⟨fun r k u => h.1 r k (fun v => u (by unfold sc; omega)), fun r k _ u _ => h.2.2.2.1 r k (by omega)⟩
theorem XS.sm {S S' : HC} (h : XS 17 S S') : Sm S S' := ⟨fun r k u => h.1 r k (fun v => u (by unfold sc; omega)), fun r k _ _ _ => h.2.2 r k⟩
theorem XA.bc {S S' : HC} {b1 b2 n : Nat} {f : Nat → Nat → Int32} {fe ye z : Int32} (h : XA S b2 n f fe ye z) (h14 : n ≤ 14) (c : BC S S' b1 b2) : XA S' b1 n f fe ye z := by
  obtain ⟨x1, x2, x3, x4, x5⟩ := h
  refine ⟨by rw [c.2.2.1 6 (by omega)]; exact x1, fun k hk j hj => ?_, by rw [c.2.2.1 7 (by omega)]; exact x3, by rw [c.2.2.1 8 (by omega)]; exact x4, by rw [c.2.2.1 9 (by omega)]; exact x5⟩
  rw [← x2 k hk j hj]
  exact c.2.1 k j hk (by omega)
theorem MA.sm {S S' : HC} {n : Nat} {f : Nat → Nat → Int32} {fe ye z : Int32} (h : MA S n f fe ye z) (h14 : n ≤ 14) (e : Sm S S') : MA S' n f fe ye z := h.ag h14 (fun k _ => e.1 69 k (by unfold sc; omega))
theorem MA.fl {S S' : HC} {n : Nat} {f : Nat → Nat → Int32} {fe ye z : Int32} {g : Nat → Int32} (h : MA S n f fe ye z) (h14 : n ≤ 14) (e : Fl S S' 73 0 89 g) : MA S' n f fe ye z := h.ag h14 (fun k _ => e.o (by decide))
theorem p_mborn {ln : Nat → Nat} {fe : Int32} {n0 : Nat} {post : Int32 → HC → Prop} (hl : LN ln) (h14 : n0 ≤ 14) : ∀ (m k : Nat) (ye : Int32) (A : LA) (S : HC), k + m = 200 → SH S → A.1 = n0 → MA S A.1 A.2.1 fe ye A.2.2 → (∀ S', MS S S' → wpX8_putsBack ln S' 68 fun S => post (brF fe m k A) S) → LX8_born_13 ln post (m + 1) S 68 (nI n0) (nI k) := by
  intro m
  induction m with
  | zero =>
    intro k ye A S hk hs hA hx h
    rw [LX8_born_13]
    dsimp only
    have e : k = 200 := by omega
    subst e
    unfold BX8_born_40 BX8_born_56
    rw [if_pos (by decide), sh68_0 hs, dn_e, ln69 hl, al_l1 (by decide) (by decide), hx.1, hA, if_pos rfl]
    have q := h S (MS.rf _)
    rw [brF] at q
    exact q
  | succ m ih =>
    intro k ye A S hk hs hA hx h
    rw [LX8_born_13]
    dsimp only
    rw [if_neg (show ¬ (200 : Int32) ≤ nI k from nI_ge (b := 200) (by omega) (by decide)), sh68_0 hs, dn_e, ln69 hl, al_l1 (by decide) (by decide), hx.1, if_pos (by rw [hA])]
    refine p_year hs hl hx (by omega) (fun S1 hx1 hd1 => ?_)
    obtain ⟨l1, l2, l3⟩ := yN_le (n := A.1) (f := A.2.1) (fe := fe) (z := A.2.2) (by omega)
    rw [lt_e, nI_1]
    rw [brF] at h
    by_cases e : yN A.1 A.2.1 fe A.2.2 = A.1
    · rw [if_pos e] at h
      exact ih (k + 1) _ (yN A.1 A.2.1 fe A.2.2, yF A.1 A.2.1 fe A.2.2, yZ A.1 A.2.1 fe A.2.2) S1 (by omega) (hd1.sh hs) (by dsimp only; omega) hx1 (fun S2 hd2 => h S2 (hd1.tr hd2))
    · rw [if_neg e] at h
      have hs1 := hd1.sh hs
      have ne : ¬ nI (yN A.1 A.2.1 fe A.2.2) = nI n0 := fun q => by
        have := (nI_eq (by omega) (by omega)).mp q
        omega
      have fin : BX8_born_40 ln post S1 68 (nI n0) (nI (k + 1)) := by
        unfold BX8_born_40 BX8_born_56
        rw [sh68_0 hs1, dn_e, ln69 hl, al_l1 (by decide) (by decide), hx1.1, if_neg ne]
        exact h S1 hd1
      rw [LX8_born_13]
      dsimp only
      rw [sh68_0 hs1, dn_e, ln69 hl, al_l1 (by decide) (by decide), hx1.1, if_neg ne]
      split
      · exact fin
      · exact fin
theorem s_born {N : Nat} {ln : Nat → Nat} {S : HC} (h : PI N ln S) : wpX7_born ln S 0 fun v S => wpX8_born ln S 68 fun w S => OK N ln v w S := by
  obtain ⟨⟨hs, hl, -, -⟩, ⟨⟨n, hn⟩, hw⟩, -⟩ := id h
  have h14 := hn.1
  obtain ⟨f, fe, ye, z, x1, x2, x3, x4, x5⟩ := hn.out
  unfold wpX7_born
  rw [sh0_3 hs, dn_e, sh0_0 hs, dn_e]
  refine p_become hs hl (Or.inr (Or.inr (Or.inl rfl))) (Or.inl rfl) (by omega) (fun S1 f1 => ?_)
  have hs1 : SH S1 := hs.sm f1.sm
  have y1 : XA S1 17 n f fe ye z := x1.bc h14 f1
  refine ⟨201, p_xborn hl 200 0 ye (n, f, z) S1 (by omega) hs1 h14 y1 (fun S2 d2 => ?_)⟩
  have s2 : Sm S S2 := f1.sm.tr d2.sm
  have hs2 := hs.sm s2
  have m2 : MA S2 n f fe ye z := x2.sm h14 s2
  unfold wpX8_born
  try dsimp only
  refine p_thinks hs2 hl (fun S3 f3 => ?_)
  have m3 := m2.fl h14 f3
  have hs3 := f3.sh hs2
  rw [sh68_0 hs3, dn_e, ln69 hl, al_l1 (by decide) (by decide), m3.1]
  refine ⟨201, p_mborn hl h14 200 0 ye (n, f, z) S3 (by omega) hs3 rfl m3 (fun S4 d4 => ?_)⟩
  exact p_putsBack (d4.sh hs3) hl (fun S5 f5 => ⟨rfl, h.sm (TM.back s2 f3 d4.tm f5)⟩)
-- 64.pbehind.lean.txt
/-! shields of a land that is only thought; step behind -/
/-- the texts of the land b and of the reference's row a, and which of them joins -/
def MWr (ln : Nat → Nat) (N : Nat) (S : HC) (b a : Nat) (o : Option ((Nat → Int32) × Nat)) : Prop := ∃ m, m ≤ 14 ∧ hI S a 4 = nI m ∧ (∀ t, t < m → ∃ q key c, hR S (b + 7) t = some q ∧ LAW ln N S q a t key c) ∧ ((lastL (ksM S a) 0 m = -1 ∧ o = none) ∨ ∃ q t c, t < m ∧ lastL (ksM S a) 0 m = nI t ∧ LAW ln N S q a t 0 c ∧ o = some (fun i => hI S a (117 + 96 * t + i), c))
abbrev MW (ln : Nat → Nat) (N : Nat) (S : HC) (b : Nat) (o : Option ((Nat → Int32) × Nat)) : Prop := MWr ln N S b 69 o
theorem MWr.ag {ln : Nat → Nat} {N : Nat} {S S' : HC} {b a : Nat} {o : Option ((Nat → Int32) × Nat)} (h : MWr ln N S b a o) (e1 : ∀ k, 89 ≤ k ∨ k = 4 → hI S' a k = hI S a k) (e2 : ∀ r k, 91 ≤ r → hI S' r k = hI S r k) (e3 : ∀ r k, r = b + 7 ∨ 91 ≤ r → hR S' r k = hR S r k) : MWr ln N S' b a o := by
  obtain ⟨m, m1, m2, m3, m4⟩ := h
  have ks : ksM S' a = ksM S a := by funext t; unfold ksM; rw [e1 _ (by omega)]
  have la : ∀ {q t key c}, LAW ln N S q a t key c → LAW ln N S' q a t key c := fun u => u.ag (fun r k v => e2 r k v) (fun r k v => e3 r k (Or.inr v)) (fun k v => e1 k (Or.inl v))
  refine ⟨m, m1, by rw [e1 4 (by omega)]; exact m2, fun t ht => ?_, ?_⟩
  · obtain ⟨q, key, c, q1, q2⟩ := m3 t ht
    exact ⟨q, key, c, by rw [e3 _ _ (Or.inl rfl)]; exact q1, la q2⟩
  · rw [ks]
    rcases m4 with u | ⟨q, t, c, u1, u2, u3, u4⟩
    · exact Or.inl u
    · refine Or.inr ⟨q, t, c, u1, u2, la u3, ?_⟩
      rw [u4]
      congr 2
      funext i
      exact (e1 _ (by omega)).symm
theorem MW.ag {ln : Nat → Nat} {N : Nat} {S S' : HC} {b : Nat} {o : Option ((Nat → Int32) × Nat)} (h : MW ln N S b o) (e1 : ∀ k, 89 ≤ k ∨ k = 4 → hI S' 69 k = hI S 69 k) (e2 : ∀ r k, 91 ≤ r → hI S' r k = hI S r k) (e3 : ∀ r k, hR S' r k = hR S r k) : MW ln N S' b o := MWr.ag h e1 e2 (fun r k _ => e3 r k)
theorem MW.tm {ln : Nat → Nat} {N : Nat} {S S' : HC} {b : Nat} {o : Option ((Nat → Int32) × Nat)} (h : MW ln N S b o) (e : TM S S') : MW ln N S' b o := h.ag e.2.1 (fun r k u => e.1 r k (by omega) (by omega) (by omega) (by omega)) e.2.2
theorem MW.fl {ln : Nat → Nat} {N : Nat} {S S' : HC} {b : Nat} {o : Option ((Nat → Int32) × Nat)} {g : Nat → Int32} (h : MW ln N S b o) (e : Fl S S' 73 0 89 g) : MW ln N S' b o := h.ag (fun k _ => e.o (by decide)) (fun r k u => e.o (by omega)) e.2
theorem MW.wo {ln : Nat → Nat} {N : Nat} {S S' : HC} {b : Nat} {o : Option ((Nat → Int32) × Nat)} (h : MW ln N S b o) (h1 : ∀ q k, q ≠ 26 → q ≠ 28 → hI S' q k = hI S q k) (h2 : ∀ q k, hR S' q k = hR S q k) : MW ln N S' b o := h.ag (fun k _ => h1 _ _ (by decide) (by decide)) (fun r k u => h1 r k (by omega) (by omega)) h2
theorem MW.mk {ln : Nat → Nat} {N : Nat} {S : HC} {b n : Nat} {f : Nat → Nat → Int32} {fe ye z : Int32} {o : Option ((Nat → Int32) × Nat)} (h : MW ln N S b o) (hm : MA S n f fe ye z) : MK ln N S b n f o := ⟨hm.1, hm.2.1, h⟩
theorem p_look3 {ln : Nat → Nat} {N : Nat} {S : HC} {b n m am : Nat} {f : Nat → Nat → Int32} {post : HC → Prop} (hs : SH S) (hl : LN ln) (hb : LB b) (ham : am = 69 ∨ am = 70) (hn : hI S b 6 = nI n) (hf : AG n (xf S b) f) (h14 : n ≤ 14) (m1 : m ≤ 14) (m2 : hI S b 11 = nI m) (m3 : hI S am 4 = nI m) (m4 : ∀ t, t < m → ∃ q key c, hR S (b + 7) t = some q ∧ LAW ln N S q am t key c) (h : ∀ S' o, LK ln N S' b n f o → MWr ln N S' b am o → (∀ r k, ¬ (r = 25 ∧ k = 5) → hI S' r k = hI S r k) → (∀ r k, ¬ (r = 25 ∧ (k = 3 ∨ k = 4)) → hR S' r k = hR S r k) → post S') : wpX4_lookAt ln S 25 b post := by
  have b25 : ∀ i, i ≤ 7 → b + i ≠ 25 := fun i hi => by rcases hb with rfl | rfl | rfl | rfl <;> omega
  unfold wpX4_lookAt
  rw [lt_e]
  have hs1 : SH (sR S 25 3 (some b)) := hs.sR _ (by decide)
  have la : ∀ {S' : HC} {q t key c}, (∀ r k, ¬ (r = 25 ∧ k = 5) → hI S' r k = hI S r k) → (∀ r k, ¬ (r = 25 ∧ (k = 3 ∨ k = 4)) → hR S' r k = hR S r k) → LAW ln N S q am t key c → LAW ln N S' q am t key c := fun e1 e2 u => u.ag (fun r k v => e1 r k (by omega)) (fun r k v => e2 r k (by omega)) (fun k _ => e1 _ _ (by omega))
  have r1 : ∀ r k, ¬ (r = 25 ∧ (k = 3 ∨ k = 4)) → hR (sR S 25 3 (some b)) r k = hR S r k := fun r k u => by rw [hR_sR, if_neg (by omega)]
  have w1 : ∀ t, t < m → ∃ q key c, hR (sR S 25 3 (some b)) (b + 7) t = some q ∧ LAW ln N (sR S 25 3 (some b)) q am t key c := fun t ht => by
    obtain ⟨q, key, c, q1, q2⟩ := m4 t ht
    exact ⟨q, key, c, by rw [r1 _ _ (by have := b25 7 (by decide); omega)]; exact q1, la (fun _ _ _ => rfl) r1 q2⟩
  have fin : ∀ (oq : Option Nat) (o : Option ((Nat → Int32) × Nat)), ((oq = none ∧ o = none ∧ lastL (ksM S am) 0 m = -1) ∨ ∃ q t c, oq = some q ∧ t < m ∧ lastL (ksM S am) 0 m = nI t ∧ LAW ln N S q am t 0 c ∧ o = some (fun i => hI S am (117 + 96 * t + i), c)) → lt_ (sR (sR S 25 3 (some b)) 25 4 oq) fun S => wpX0_heiresses ln S b fun z2 S => lt_ (sI S 25 5 z2) fun S => post S := fun oq o ho => by
    rw [lt_e]
    have hs2 : SH (sR (sR S 25 3 (some b)) 25 4 oq) := hs1.sR _ (by decide)
    refine p_heiresses hs2 hl hb hn hf h14 ?_
    rw [lt_e]
    have e1 : ∀ r k, ¬ (r = 25 ∧ k = 5) → hI (sI (sR (sR S 25 3 (some b)) 25 4 oq) 25 5 (herB n f n)) r k = hI S r k := fun r k u => by rw [hI_ne u]; rfl
    have e2 : ∀ r k, ¬ (r = 25 ∧ (k = 3 ∨ k = 4)) → hR (sI (sR (sR S 25 3 (some b)) 25 4 oq) 25 5 (herB n f n)) r k = hR S r k := fun r k u => by rw [hR_sI, hR_sR, if_neg (by omega), r1 r k u]
    refine h _ o ⟨?_, hI_self _ _ _ _, by rw [e1 _ _ (by have := b25 0 (by decide); omega)]; exact hn, fun k hk j hj => ?_, ?_⟩ ⟨m, m1, by rw [e1 _ _ (by omega)]; exact m3, fun t ht => ?_, ?_⟩ e1 e2
    · rw [hR_sI, hR_sR, if_neg (by decide), hR_sR, if_pos ⟨rfl, rfl⟩]
    · rw [← hf k hk j hj]
      exact e1 _ _ (by have := b25 (1 + k) (by omega); omega)
    · have e4 : hR (sI (sR (sR S 25 3 (some b)) 25 4 oq) 25 5 (herB n f n)) 25 4 = oq := by rw [hR_sI, hR_sR, if_pos ⟨rfl, rfl⟩]
      rw [e4]
      rcases ho with ⟨u1, u2, -⟩ | ⟨q, t, c, u1, u2, u3, u4, u5⟩
      · exact Or.inl ⟨u1, u2⟩
      · refine Or.inr ⟨q, t, c, am, ham, u1, la e1 e2 u4, ?_⟩
        rw [u5]
        congr 2
        funext i
        exact (e1 _ _ (by omega)).symm
    · obtain ⟨q, key, c, q1, q2⟩ := m4 t ht
      exact ⟨q, key, c, by rw [e2 _ _ (by have := b25 7 (by decide); omega)]; exact q1, la e1 e2 q2⟩
    · have ks : ksM (sI (sR (sR S 25 3 (some b)) 25 4 oq) 25 5 (herB n f n)) am = ksM S am := by funext t; unfold ksM; rw [e1 _ _ (by omega)]
      rw [ks]
      rcases ho with ⟨u1, u2, u3⟩ | ⟨q, t, c, u1, u2, u3, u4, u5⟩
      · exact Or.inl ⟨u3, u2⟩
      · refine Or.inr ⟨q, t, c, u2, u3, la e1 e2 u4, ?_⟩
        rw [u5]
        congr 2
        funext i
        exact (e1 _ _ (by omega)).symm
  refine p_lawFor (key := 0) (a := am) hs1 hl hb (by decide) m1 m2 w1 (fun e => ?_) (fun t q c t1 t3 q1 q2 => ?_)
  · exact fin none none (Or.inl ⟨rfl, rfl, e⟩)
  · exact fin (some q) (some (fun i => hI S am (117 + 96 * t + i), c)) (Or.inr ⟨q, t, c, rfl, t1, t3, q2.ag (fun _ _ _ => rfl) (fun r k v => (r1 r k (by omega)).symm) (fun _ _ => rfl), rfl⟩)
theorem p_look2 {ln : Nat → Nat} {N : Nat} {S : HC} {b n m : Nat} {f : Nat → Nat → Int32} {post : HC → Prop} (hs : SH S) (hl : LN ln) (hb : LB b) (hn : hI S b 6 = nI n) (hf : AG n (xf S b) f) (h14 : n ≤ 14) (m1 : m ≤ 14) (m2 : hI S b 11 = nI m) (m3 : hI S 69 4 = nI m) (m4 : ∀ t, t < m → ∃ q key c, hR S (b + 7) t = some q ∧ LAW ln N S q 69 t key c) (h : ∀ S' o, LK ln N S' b n f o → MW ln N S' b o → (∀ r k, ¬ (r = 25 ∧ k = 5) → hI S' r k = hI S r k) → (∀ r k, ¬ (r = 25 ∧ (k = 3 ∨ k = 4)) → hR S' r k = hR S r k) → post S') : wpX4_lookAt ln S 25 b post := p_look3 hs hl hb (Or.inl rfl) hn hf h14 m1 m2 m3 m4 h
theorem look_sm {S S' : HC} (e1 : ∀ r k, ¬ (r = 25 ∧ k = 5) → hI S' r k = hI S r k) (e2 : ∀ r k, ¬ (r = 25 ∧ (k = 3 ∨ k = 4)) → hR S' r k = hR S r k) : Sm S S' := ⟨fun r k u => e1 r k (fun v => u (by unfold sc; omega)), fun r k u _ _ => e2 r k u⟩
theorem wo_sm {S S' : HC} (e1 : ∀ q k, q ≠ 26 → q ≠ 28 → hI S' q k = hI S q k) (e2 : ∀ q k, hR S' q k = hR S q k) : Sm S S' := ⟨fun r k u => e1 r k (fun v => u (by unfold sc; omega)) (fun v => u (by unfold sc; omega)), fun r k _ _ _ => e2 r k⟩
/-- the texts of the thought land, as those of the land that it became -/
theorem LWR.th {ln : Nat → Nat} {N : Nat} {S S' : HC} {b : Nat} (h : LWR ln N S b 69) (hs : Sm S S') (e1 : hI S' 17 11 = hI S b 11) (e2 : ∀ j, j < 14 → hR S' 24 j = hR S (b + 7) j) : ∃ m, m ≤ 14 ∧ hI S' 17 11 = nI m ∧ hI S' 69 4 = nI m ∧ ∀ t, t < m → ∃ q key c, hR S' (17 + 7) t = some q ∧ LAW ln N S' q 69 t key c := by
  obtain ⟨m, m1, m2, m3, m4⟩ := h
  refine ⟨m, m1, by rw [e1]; exact m2, by rw [hs.1 69 4 (by unfold sc; omega)]; exact m3, fun t ht => ?_⟩
  obtain ⟨q, key, c, q1, q2⟩ := m4 t ht
  exact ⟨q, key, c, by rw [e2 t (by omega)]; exact q1, q2.ag (fun r k u => hs.1 r k (by unfold sc; omega)) (fun r k u => hs.2 r k (by omega) (by omega) (by omega)) (fun k _ => hs.1 69 k (by unfold sc; omega))⟩
theorem p_think {ln : Nat → Nat} {S : HC} {n c : Nat} {f : Nat → Nat → Int32} {fe ye z : Int32} {post : HC → Prop} (hs : SH S) (hl : LN ln) (hc : c < 1000) (hx : XA S 1 n f fe ye z) (h14 : n ≤ 14) (h : ∀ S' ye', XA S' 17 (yK fe c (n, f, z)).1 (yK fe c (n, f, z)).2.1 fe ye' (yK fe c (n, f, z)).2.2 → Sm S S' → hI S' 17 11 = hI S 1 11 → (∀ j, j < 14 → hR S' 24 j = hR S 8 j) → post S') : wpX7_think ln S 0 (nI c) post := by
  unfold wpX7_think
  rw [sh0_3 hs, dn_e, sh0_0 hs, dn_e]
  refine p_become hs hl (Or.inr (Or.inr (Or.inl rfl))) (Or.inl rfl) (by omega) (fun S1 f1 => ?_)
  have key : ∀ (m i : Nat) (ye : Int32) (A : LA) (S' : HC), i + m = c → SH S' → A.1 ≤ 14 → XA S' 17 A.1 A.2.1 fe ye A.2.2 → XS 17 S1 S' → (∀ S'' ye', XA S'' 17 (yK fe m A).1 (yK fe m A).2.1 fe ye' (yK fe m A).2.2 → XS 17 S1 S'' → post S'') → LX7_think_13 ln post (m + 1) S' 0 (nI c) (nI i) := by
    intro m
    induction m with
    | zero =>
      intro i ye A S' hi hs' h14 hx hd h
      rw [LX7_think_13]
      dsimp only
      rw [if_pos (nI_le (by omega) (by omega))]
      exact h S' ye hx hd
    | succ m ih =>
      intro i ye A S' hi hs' h14 hx hd h
      rw [LX7_think_13]
      dsimp only
      rw [if_neg (nI_ge (by omega) (by omega)), sh0_3 hs', dn_e]
      refine p_pass hs' hl (Or.inr (Or.inr (Or.inl rfl))) hx h14 (fun S2 hx2 hd2 => ?_)
      obtain ⟨l1, l2, l3⟩ := yN_le (f := A.2.1) (fe := fe) (z := A.2.2) h14
      rw [lt_e, nI_1]
      exact ih (i + 1) _ (yN A.1 A.2.1 fe A.2.2, yF A.1 A.2.1 fe A.2.2, yZ A.1 A.2.1 fe A.2.2) S2 (by omega) (hd2.sh hs') l1 hx2 (hd.tr hd2) h
  refine ⟨c + 1, key c 0 ye (n, f, z) S1 (by omega) (hs.sm f1.sm) h14 (hx.bc h14 f1) (XS.rf _ _) (fun S2 ye2 hx2 hd2 => h S2 ye2 hx2 (f1.sm.tr hd2.sm) ?_ (fun j hj => ?_))⟩
  · rw [hd2.2.1, f1.2.2.1 11 (by omega)]
  · rw [hd2.2.2]; exact f1.2.2.2.2 j hj
/-- what all show of a charge, together -/
def sumB (f : Nat → Nat → Int32) (T : Nat → Int32) (ch : Nat) : Nat → Int32
  | 0 => 0
  | i + 1 => sumB f T ch i + shV f T ch i
theorem p_together {ln : Nat → Nat} {N : Nat} {S : HC} {b n ch : Nat} {f : Nat → Nat → Int32} {o : Option ((Nat → Int32) × Nat)} {T : Nat → Int32} {post : Int32 → HC → Prop} (hs : SH S) (hl : LN ln) (hb : LB b) (hk : LK ln N S b n f o) (h14 : n ≤ 14) (hc : ch < 8) (hT : ∀ p, p < n → hI S 26 (14 * ch + p) = T p) (h : post (sumB f T ch n) S) : wpX4_together ln S 25 (nI ch) post := by
  have key : ∀ m i, i + m = n → LX4_together_4 ln post (m + 1) S 25 (nI ch) (sumB f T ch i) (nI i) := by
    intro m
    induction m with
    | zero =>
      intro i hi
      rw [LX4_together_4]
      dsimp only
      rw [hk.1, dn_e, lt_e, hk.2.2.1, if_pos (nI_le (by omega) (by omega)), show i = n by omega]
      exact h
    | succ m ih =>
      intro i hi
      have k := ih (i + 1) (by omega)
      rw [sumB] at k
      rw [LX4_together_4]
      dsimp only
      rw [hk.1, dn_e, lt_e, hk.2.2.1, if_neg (nI_ge (by omega) (by omega)), p_shown hs hl hb hk h14 hc (by omega) (hT i (by omega)), lt_e, lt_e, nI_1]
      exact k
  exact ⟨n + 1, key n 0 (by omega)⟩
theorem p_mallBear {ln : Nat → Nat} {N : Nat} {S : HC} {b n ch : Nat} {f : Nat → Nat → Int32} {o : Option ((Nat → Int32) × Nat)} {post : Int32 → HC → Prop} (hs : SH S) (hl : LN ln) (hk : MK ln N S b n f o) (hv : VP n f) (h14 : n ≤ 14) (hc : ch < 8) (h : ∀ S', MC S S' → post (sumB f (ptT n f o (nI ch) n) ch n) S') : wpX8_allBear ln S 68 (nI ch) post := by
  unfold wpX8_allBear
  refine p_worksOf hs hl hk hv h14 hc (fun S1 w1 => ?_)
  have hs1 := w1.1.sh hs
  have k1 := hk.ag w1.1
  have key : ∀ m i, i + m = n → LX8_allBear_9 ln post (m + 1) S1 68 (nI ch) (sumB f (ptT n f o (nI ch) n) ch i) (nI i) := by
    intro m
    induction m with
    | zero =>
      intro i hi
      rw [LX8_allBear_9]
      dsimp only
      rw [sh68_0 hs1, dn_e, ln69 hl, al_l1 (by decide) (by decide), k1.1, if_pos (nI_le (by omega) (by omega)), show i = n by omega]
      exact h S1 w1.1
    | succ m ih =>
      intro i hi
      have k := ih (i + 1) (by omega)
      rw [sumB] at k
      rw [LX8_allBear_9]
      dsimp only
      rw [sh68_0 hs1, dn_e, ln69 hl, al_l1 (by decide) (by decide), k1.1, if_neg (nI_ge (by omega) (by omega)), p_borne hs1 hl k1 h14 hc (by omega) (w1.2.1 i (by omega)), lt_e, lt_e, nI_1]
      exact k
  exact ⟨n + 1, key n 0 (by omega)⟩
-- 65.pbehind2.lean.txt
/-! step behind -/
theorem s_behind {N : Nat} {ln : Nat → Nat} {S : HC} (h : PI N ln S) (a1 a2 : Int32) : wpX7_behind ln S 0 a1 a2 fun v S => wpX8_behind ln S 68 a1 a2 fun w S => OK N ln v w S := by
  obtain ⟨⟨hs, hl, -, -⟩, ⟨⟨n, hn⟩, hw⟩, -⟩ := id h
  have h14 := hn.1
  obtain ⟨f, fe, ye, z, x1, x2, x3, x4, y, hy, rfl⟩ := hn.out
  have no : ¬ ((0 ≤ a1 ∧ a1 ≤ 100) ∧ 0 ≤ a2 ∧ a2 ≤ 9) → wpX8_behind ln S 68 a1 a2 fun w S => OK N ln (-1000000001) w S := fun u => by
    unfold wpX8_behind BX8_behind_20
    rw [p_in]
    by_cases c1 : 0 ≤ a1 ∧ a1 ≤ 100
    · rw [bI_t c1, if_neg (by decide), p_in, bI_f (fun q => u ⟨c1, q⟩), if_pos rfl]
      exact ⟨rfl, h⟩
    · rw [bI_f c1, if_pos rfl]
      exact ⟨rfl, h⟩
  unfold wpX7_behind BX7_behind_20 wpX7_allBear wpX4_workOutAll
  by_cases c1 : a1 < 0
  · rw [if_pos c1]; exact no (fun q => absurd c1 (Int32.not_lt.mpr q.1.1))
  rw [if_neg c1]
  by_cases c2 : 100 < a1
  · rw [if_pos c2]; exact no (fun q => absurd c2 (Int32.not_lt.mpr q.1.2))
  rw [if_neg c2]
  by_cases c3 : a2 < 0
  · rw [if_pos c3]; exact no (fun q => absurd c3 (Int32.not_lt.mpr q.2.1))
  rw [if_neg c3]
  by_cases c4 : a2 ≤ 9
  · rw [if_pos c4]
    obtain ⟨c, hc, rfl⟩ := nI_of2 (n := 100) (M := 100) (x := a1) rfl c1 (Int32.not_lt.mp c2)
    obtain ⟨w, hw9, rfl⟩ := nI_of2 (n := 9) (M := 9) (x := a2) rfl c3 c4
    have hv := yK_ok (fe := fe) c (n, f, z) x3
    have h14' := (yK_le (fe := fe) c (n, f, z) h14).1
    have ref : ∀ (S3 : HC) (v : Int32) (o : Option ((Nat → Int32) × Nat)), Sm S S3 → (w = 0 → v = nI (yK fe c (n, f, z)).1) → (w = 1 → MW ln N S3 17 o ∧ v = nI (clI (yK fe c (n, f, z)).2.1 (fun ch => ptT (yK fe c (n, f, z)).1 (yK fe c (n, f, z)).2.1 o (nI ch) (yK fe c (n, f, z)).1) (yK fe c (n, f, z)).1)) → (∀ ch, w = 2 + ch → MW ln N S3 17 o ∧ v = sumB (yK fe c (n, f, z)).2.1 (ptT (yK fe c (n, f, z)).1 (yK fe c (n, f, z)).2.1 o (nI ch) (yK fe c (n, f, z)).1) ch (yK fe c (n, f, z)).1) → wpX8_behind ln S3 68 (nI c) (nI w) fun w S => OK N ln v w S := by
      intro S3 v o s3 v0 v1 v2
      have hs3 := hs.sm s3
      unfold wpX8_behind
      rw [p_in, bI_t ⟨nI_pos' (by omega), show nI c ≤ 100 from nI_le (b := 100) hc (by decide)⟩, if_neg (by decide), p_in, bI_t ⟨nI_pos' (by omega), c4⟩, if_neg (by decide)]
      refine p_thinks hs3 hl (fun S4 f4 => ?_)
      have hs4 := f4.sh hs3
      refine p_goesOn (A := (n, f, z)) hl (by omega) hs4 h14 ((x2.sm h14 s3).fl h14 f4) (fun S5 m5 d5 => ?_)
      have hs5 := d5.sh hs4
      unfold BX8_behind_64
      have fin : ∀ S6, TM S4 S6 → wpX8_putsBack ln S6 68 fun S => OK N ln v v S := fun S6 t6 => p_putsBack (t6.sh hs4) hl (fun S7 f7 => ⟨rfl, h.sm (TM.back s3 f4 t6 f7)⟩)
      by_cases e0 : w = 0
      · subst e0
        rw [if_pos (show nI 0 = 0 from rfl), sh68_0 hs5, dn_e, ln69 hl, al_l1 (by decide) (by decide), m5.1, ← v0 rfl]
        exact fin S5 d5.tm
      rw [if_neg (nI_ne0 (by omega) (by omega))]
      by_cases e1 : w = 1
      · subst e1
        rw [if_pos (show nI 1 = 1 from rfl)]
        obtain ⟨q1, q2⟩ := v1 rfl
        refine p_mclashes hs5 hl (((q1.fl f4).tm d5.tm).mk m5) hv h14' (fun S6 c6 => ?_)
        rw [← q2]
        exact fin S6 (d5.tm.tr c6.tm)
      rw [if_neg (show ¬ nI w = 1 from fun q => e1 ((nI_eq (b := 1) (by omega) (by decide)).mp q)), lt_e, show nI w - 2 = nI (w - 2) from pk_sub (b := 2) (by omega)]
      obtain ⟨q1, q2⟩ := v2 (w - 2) (by omega)
      refine p_mallBear hs5 hl (((q1.fl f4).tm d5.tm).mk m5) hv h14' (by omega) (fun S6 c6 => ?_)
      rw [← q2]
      exact fin S6 (d5.tm.tr c6.tm)
    refine p_think hs hl (by omega) x1 h14 (fun S2 ye2 hx2 s2 t11 t24 => ?_)
    have hs2 := hs.sm s2
    obtain ⟨m, m1, m2, m3, m4⟩ := hw.th s2 t11 t24
    by_cases e0 : w = 0
    · subst e0
      rw [if_pos (show nI 0 = 0 from rfl), sh0_3 hs2, dn_e, lt_e, hx2.1]
      exact ref S2 _ none s2 (fun _ => rfl) (fun u => absurd u (by decide)) (fun ch u => absurd u (by omega))
    rw [if_neg (nI_ne0 (by omega) (by omega))]
    by_cases e1 : w = 1
    · subst e1
      rw [if_pos (show nI 1 = 1 from rfl), sh0_4 hs2, dn_e, sh0_3 hs2, dn_e]
      refine p_look2 hs2 hl (Or.inr (Or.inr (Or.inl rfl))) hx2.1 hx2.2.1 h14' m1 m2 m3 m4 (fun S3 o k3 w3 g1 g2 => ?_)
      have s3 := s2.tr (look_sm g1 g2)
      have hs3 := hs.sm s3
      refine p_allOut hs3 hl (Or.inr (Or.inr (Or.inl rfl))) k3 hv h14' (fun S4 w4 => ?_)
      have s4 := s3.tr (wo_sm w4.1 w4.2.2)
      have hs4 := hs.sm s4
      rw [sh0_4 hs4, dn_e]
      refine p_clashes hs4 hl (Or.inr (Or.inr (Or.inl rfl))) (k3.ag (Or.inr (Or.inr (Or.inl rfl))) w4.1 w4.2.2) h14' w4.2.1 (fun ch j => ptT_ok _ j) (fun S5 q1 q2 => ?_)
      exact ref S5 _ o (s4.tr (wo_sm (fun q k _ _ => q1 q k) q2)) (fun u => absurd u (by decide)) (fun _ => ⟨(w3.wo w4.1 w4.2.2).wo (fun q k _ _ => q1 q k) q2, rfl⟩) (fun ch u => absurd u (by omega))
    rw [if_neg (show ¬ nI w = 1 from fun q => e1 ((nI_eq (b := 1) (by omega) (by decide)).mp q)), sh0_3 hs2, dn_e, lt_e, show nI w - 2 = nI (w - 2) from pk_sub (b := 2) (by omega), sh0_4 hs2, dn_e]
    refine p_look2 hs2 hl (Or.inr (Or.inr (Or.inl rfl))) hx2.1 hx2.2.1 h14' m1 m2 m3 m4 (fun S3 o k3 w3 g1 g2 => ?_)
    have s3 := s2.tr (look_sm g1 g2)
    have hs3 := hs.sm s3
    rw [sh0_4 hs3, dn_e]
    refine p_workOut hs3 hl (Or.inr (Or.inr (Or.inl rfl))) k3 hv h14' (show w - 2 < 8 by omega) (fun S4 w4 => ?_)
    have s4 := s3.tr (wo_sm w4.1 w4.2.2.2)
    have hs4 := hs.sm s4
    rw [sh0_4 hs4, dn_e]
    refine p_together hs4 hl (Or.inr (Or.inr (Or.inl rfl))) (k3.ag (Or.inr (Or.inr (Or.inl rfl))) w4.1 w4.2.2.2) h14' (by omega) w4.2.2.1 ?_
    exact ref S4 _ o s4 (fun u => absurd u e0) (fun u => absurd u e1) (fun ch u => by
      have e : ch = w - 2 := by omega
      subst e
      exact ⟨w3.wo w4.1 w4.2.2.2, rfl⟩)
  · rw [if_neg c4]; exact no (fun q => c4 q.2.2)
-- 66.pgone.lean.txt
/-! step gone -/
theorem nI_and {a b : Nat} (ha : a < 2 ^ 32) (hb : b < 2 ^ 32) : nI a &&& nI b = nI (a &&& b) := by
  apply Int32.toBitVec_inj.mp
  apply BitVec.eq_of_toNat_eq
  have : a &&& b < 2 ^ 32 := Nat.lt_of_le_of_lt Nat.and_le_left ha
  rw [Int32.toBitVec_and, BitVec.toNat_and, pk_tn ha, pk_tn hb, pk_tn this]
/-- how many bits, by numbers -/
def nbc (n : Nat) : Nat := (fun a1 => (fun a2 => (fun a3 => (fun a4 => (a4 + a4 / 65536) &&& 63) (a3 + a3 / 256)) ((a2 + a2 / 16) &&& 252645135)) ((a1 &&& 858993459) + (a1 / 4 &&& 858993459))) (n - (n / 2 &&& 1431655765))
theorem us_N {n k : Nat} {s : Int32} (hn : n < 2 ^ 32) (hs : ((s.toUInt32 &&& Int32.toUInt32 31).toBitVec % 32).toNat = k) : us (nI n) s = nI (n / 2 ^ k) := pk_ushrN hn s k hs
theorem nbc_e {n : Nat} (h : n < 16384) : bc5 (bc4 (bc3 (bc2 (bc1 (nI n))))) = nI (nbc n) := by
  have l1 : n / 2 &&& 1431655765 ≤ n / 2 := Nat.and_le_left
  have e1 : bc1 (nI n) = nI (n - (n / 2 &&& 1431655765)) := by
    unfold bc1
    rw [us_N (k := 1) (by omega) (by decide), show (1431655765 : Int32) = nI 1431655765 from rfl, show 2 ^ 1 = 2 from rfl, nI_and (by omega) (by decide), pk_sub (by omega)]
  rw [e1]
  unfold nbc
  dsimp only
  generalize h1 : n - (n / 2 &&& 1431655765) = a1
  have b1 : a1 < 16384 := by omega
  have l2 : a1 &&& 858993459 ≤ a1 := Nat.and_le_left
  have l3 : a1 / 4 &&& 858993459 ≤ a1 / 4 := Nat.and_le_left
  have e2 : bc2 (nI a1) = nI ((a1 &&& 858993459) + (a1 / 4 &&& 858993459)) := by
    unfold bc2
    rw [us_N (k := 2) (by omega) (by decide), show (858993459 : Int32) = nI 858993459 from rfl, show 2 ^ 2 = 4 from rfl, nI_and (by omega) (by decide), nI_and (by omega) (by decide), nI_add]
  rw [e2]
  generalize h2 : (a1 &&& 858993459) + (a1 / 4 &&& 858993459) = a2
  have b2 : a2 < 32768 := by omega
  have l4 : (a2 + a2 / 16) &&& 252645135 ≤ a2 + a2 / 16 := Nat.and_le_left
  have e3 : bc3 (nI a2) = nI ((a2 + a2 / 16) &&& 252645135) := by
    unfold bc3
    rw [us_N (k := 4) (by omega) (by decide), show (252645135 : Int32) = nI 252645135 from rfl, show 2 ^ 4 = 16 from rfl, nI_add, nI_and (by omega) (by decide)]
  rw [e3]
  generalize h3 : (a2 + a2 / 16) &&& 252645135 = a3
  have b3 : a3 < 65536 := by omega
  have e4 : bc4 (nI a3) = nI (a3 + a3 / 256) := by
    unfold bc4
    rw [us_N (k := 8) (by omega) (by decide), show 2 ^ 8 = 256 from rfl, nI_add]
  rw [e4]
  unfold bc5
  rw [us_N (k := 16) (by omega) (by decide), show (63 : Int32) = nI 63 from rfl, show 2 ^ 16 = 65536 from rfl, nI_add, nI_and (by omega) (by decide)]
def pe14 (x : Nat) : Nat := Nat.add (Nat.add (Nat.add (Nat.add (Nat.add (Nat.add (Nat.add (Nat.add (Nat.add (Nat.add (Nat.add (Nat.add (Nat.add (Nat.add (0) (Nat.mod (Nat.div x 1) 2)) (Nat.mod (Nat.div x 2) 2)) (Nat.mod (Nat.div x 4) 2)) (Nat.mod (Nat.div x 8) 2)) (Nat.mod (Nat.div x 16) 2)) (Nat.mod (Nat.div x 32) 2)) (Nat.mod (Nat.div x 64) 2)) (Nat.mod (Nat.div x 128) 2)) (Nat.mod (Nat.div x 256) 2)) (Nat.mod (Nat.div x 512) 2)) (Nat.mod (Nat.div x 1024) 2)) (Nat.mod (Nat.div x 2048) 2)) (Nat.mod (Nat.div x 4096) 2)) (Nat.mod (Nat.div x 8192) 2)
theorem pe14_e (x : Nat) : pcN x 14 = pe14 x := rfl
theorem nbc_p : ∀ a b : Fin 128, Nat.beq (nbc (128 * a.val + b.val)) (pe14 (128 * a.val + b.val)) = true := by decide +kernel
theorem nbc_h : ∀ a b : Fin 128, nbc (128 * a.val + b.val) = pcN (128 * a.val + b.val) 14 := fun a b => by
  rw [pe14_e]
  exact Nat.eq_of_beq_eq_true (nbc_p a b)
theorem bc_h (a b : Fin 128) : bc5 (bc4 (bc3 (bc2 (bc1 (nI (128 * a.val + b.val)))))) = nI (pcN (128 * a.val + b.val) 14) := by
  rw [nbc_e (by omega), nbc_h]
theorem p_bitC14 {ln : Nat → Nat} {S : HC} {b : Nat} {post : Int32 → HC → Prop} (hb : b < 16384) : wpJ6_bitCount_0f7a4 ln S (nI b) post = post (nI (pcN b 14)) S := by
  have e := bc_h ⟨b / 128, by omega⟩ ⟨b % 128, by omega⟩
  dsimp only at e
  rw [show 128 * (b / 128) + b % 128 = b by omega] at e
  rw [← e]
  unfold wpJ6_bitCount_0f7a4 bc5 bc4 bc3 bc2 bc1 us
  simp only [lt_e]
theorem pcN_hi {x i : Nat} (hx : x < 2 ^ i) : ∀ j, pcN (x + 2 ^ i) j = pcN x j + (if i < j then 1 else 0) := by
  intro j
  induction j with
  | zero => rfl
  | succ j ih =>
    rw [pcN, pcN, ih]
    have e : (x + 2 ^ i) / 2 ^ j % 2 = (x / 2 ^ j % 2) + (if i = j then 1 else 0) := by
      rcases Nat.lt_trichotomy i j with q | q | q
      · rw [if_neg (by omega)]
        have h1 : 2 ^ (i + 1) ≤ 2 ^ j := Nat.pow_le_pow_right (by decide) (by omega)
        rw [Nat.pow_succ] at h1
        rw [Nat.div_eq_of_lt (by omega), Nat.div_eq_of_lt (by omega)]
      · subst q
        rw [if_pos rfl, Nat.div_eq_of_lt hx, Nat.add_div_right _ (Nat.two_pow_pos i), Nat.div_eq_of_lt hx]
      · rw [if_neg (by omega)]
        have e2 : 2 ^ i = 2 ^ j * (2 * 2 ^ (i - j - 1)) := by
          rw [← Nat.mul_assoc, Nat.mul_comm (2 ^ j) 2, ← Nat.pow_succ', ← Nat.pow_add]
          congr 1
          omega
        rw [e2, Nat.add_mul_div_left _ _ (Nat.two_pow_pos j)]
        omega
    rw [e]
    by_cases q : i < j
    · rw [if_pos q, if_neg (by omega), if_pos (by omega)]; omega
    · rw [if_neg q]
      by_cases q2 : i = j
      · rw [if_pos q2, if_pos (by omega)]; omega
      · rw [if_neg q2, if_neg (by omega)]; omega
/-- those who bear, as a number, and how many they are -/
def shM (f : Nat → Nat → Int32) (T : Nat → Int32) (ch : Nat) (w : Int32) : Nat → Nat
  | 0 => 0
  | i + 1 => if w ≤ shV f T ch i then shM f T ch w i + 2 ^ i else shM f T ch w i
def shC (f : Nat → Nat → Int32) (T : Nat → Int32) (ch : Nat) (w : Int32) : Nat → Nat
  | 0 => 0
  | i + 1 => shC f T ch w i + (if w ≤ shV f T ch i then 1 else 0)
theorem shM_lt {f : Nat → Nat → Int32} {T : Nat → Int32} {ch : Nat} {w : Int32} : ∀ i, shM f T ch w i < 2 ^ i := by
  intro i
  induction i with
  | zero => rw [shM]; decide
  | succ i ih =>
    rw [shM, Nat.pow_succ]
    split <;> omega
theorem shM_B {f : Nat → Nat → Int32} {T : Nat → Int32} {ch : Nat} {w : Int32} : ∀ i, i ≤ 14 → shB f T ch w i = nI (shM f T ch w i) := by
  intro i
  induction i with
  | zero => intro _; rfl
  | succ i ih =>
    intro hi
    rw [shB, shM, ih (by omega)]
    by_cases u : w ≤ shV f T ch i
    · rw [if_pos u, if_pos u]
      have lt := shM_lt (f := f) (T := T) (ch := ch) (w := w) i
      have p14 : 2 ^ i ≤ 2 ^ 13 := Nat.pow_le_pow_right (by decide) (by omega)
      rw [show (1 : Int32) = nI 1 from rfl, pk_shlN (n := 1) _ i (sh31 ⟨i, by omega⟩) (by omega), Nat.one_mul]
      apply Int32.toBitVec_inj.mp
      apply BitVec.eq_of_toNat_eq
      rw [Int32.toBitVec_or, BitVec.toNat_or, pk_tn (by omega), pk_tn (by omega), pk_tn (by omega), Nat.or_comm]
      have := Nat.shiftLeft_add_eq_or_of_lt lt 1
      rw [Nat.shiftLeft_eq, Nat.one_mul] at this
      rw [← this, Nat.add_comm]
    · rw [if_neg u, if_neg u]
theorem shM_C {f : Nat → Nat → Int32} {T : Nat → Int32} {ch : Nat} {w : Int32} : ∀ i, i ≤ 14 → pcN (shM f T ch w i) 14 = shC f T ch w i := by
  intro i
  induction i with
  | zero => intro _; rw [shM, shC]; decide
  | succ i ih =>
    intro hi
    rw [shM, shC]
    by_cases u : w ≤ shV f T ch i
    · rw [if_pos u, if_pos u, pcN_hi (shM_lt i), ih (by omega), if_pos (by omega)]
    · rw [if_neg u, if_neg u, ih (by omega)]; rfl
theorem shC_le {f : Nat → Nat → Int32} {T : Nat → Int32} {ch : Nat} {w : Int32} : ∀ i, shC f T ch w i ≤ i := by
  intro i
  induction i with
  | zero => exact Nat.le_refl _
  | succ i ih => rw [shC]; split <;> omega
/-- the charge that fewest bear, and how many, of the first c -/
def gnF (M : Nat → Nat) : Nat → Int32 × Int32
  | 0 => (0, 15)
  | c + 1 => if (gnF M c).2 ≤ nI (M c) then gnF M c else (nI c, nI (M c))
theorem p_xgone {ln : Nat → Nat} {N : Nat} {S : HC} {b n : Nat} {f : Nat → Nat → Int32} {o : Option ((Nat → Int32) × Nat)} {T : Nat → Nat → Int32} {x2 : Int32} {post : Int32 → HC → Prop} (hs : SH S) (hl : LN ln) (hb : LB b) (hk : LK ln N S b n f o) (h14 : n ≤ 14) (hT : ∀ ch j, ch < 8 → j < n → hI S 26 (14 * ch + j) = T ch j) (h : post (if x2 = 0 then (gnF (fun c => shC f (T c) c 1 n) 8).1 else (gnF (fun c => shC f (T c) c 1 n) 8).2) S) : ∃ k, LX7_gone_47 ln post k S 0 x2 0 15 0 := by
  have key : ∀ m c, c + m = 8 → LX7_gone_47 ln post (m + 1) S 0 x2 (gnF (fun c => shC f (T c) c 1 n) c).1 (gnF (fun c => shC f (T c) c 1 n) c).2 (nI c) := by
    intro m
    induction m with
    | zero =>
      intro c hc
      have e : c = 8 := by omega
      subst e
      rw [LX7_gone_47]
      dsimp only
      rw [if_pos (by decide)]
      by_cases u : x2 = 0
      · rw [if_pos u] at h ⊢; exact h
      · rw [if_neg u] at h ⊢; exact h
    | succ m ih =>
      intro c hc
      have k := ih (c + 1) (by omega)
      rw [gnF] at k
      rw [LX7_gone_47]
      dsimp only
      unfold BX7_gone_83
      rw [if_neg (show ¬ (8 : Int32) ≤ nI c from nI_ge (b := 8) (by omega) (by decide)), sh0_4 hs, dn_e]
      refine p_bearersOf (T := T c) hs hl hb hk h14 (by omega) (fun p hp => hT c p (by omega) hp) ?_
      have lt := shM_lt (f := f) (T := T c) (ch := c) (w := 1) n
      have p14 : 2 ^ n ≤ 2 ^ 14 := Nat.pow_le_pow_right (by decide) h14
      rw [shM_B n h14, p_bitC14 (by omega), shM_C n h14, lt_e, lt_e, nI_1]
      by_cases u : (gnF (fun c => shC f (T c) c 1 n) c).2 ≤ nI (shC f (T c) c 1 n)
      · rw [if_pos u] at k ⊢; exact k
      · rw [if_neg u] at k ⊢; exact k
  exact ⟨9, key 8 0 (by omega)⟩
theorem p_mgone {ln : Nat → Nat} {N : Nat} {S : HC} {b n : Nat} {f : Nat → Nat → Int32} {o : Option ((Nat → Int32) × Nat)} {T : Nat → Nat → Int32} {x2 : Int32} {post : Int32 → HC → Prop} (hs : SH S) (hl : LN ln) (hk : MK ln N S b n f o) (h14 : n ≤ 14) (hT : ∀ ch j, ch < 8 → j < n → hI S 72 (8 * j + ch) = T ch j) (h : wpX8_putsBack ln S 68 fun S => post (if x2 = 0 then (gnF (fun c => shC f (T c) c 1 n) 8).1 else (gnF (fun c => shC f (T c) c 1 n) 8).2) S) : ∃ k, LX8_gone_44 ln post k S 68 x2 0 15 0 := by
  have key : ∀ m c, c + m = 8 → LX8_gone_44 ln post (m + 1) S 68 x2 (gnF (fun c => shC f (T c) c 1 n) c).1 (gnF (fun c => shC f (T c) c 1 n) c).2 (nI c) := by
    intro m
    induction m with
    | zero =>
      intro c hc
      have e : c = 8 := by omega
      subst e
      rw [LX8_gone_44]
      dsimp only
      rw [if_pos (by decide)]
      by_cases u : x2 = 0
      · simp only [if_pos u] at h ⊢; exact h
      · simp only [if_neg u] at h ⊢; exact h
    | succ m ih =>
      intro c hc
      have k := ih (c + 1) (by omega)
      rw [gnF] at k
      rw [LX8_gone_44]
      dsimp only
      rw [if_neg (show ¬ (8 : Int32) ≤ nI c from nI_ge (b := 8) (by omega) (by decide))]
      generalize gnF (fun c => shC f (T c) c 1 n) c = G at k ⊢
      have inner : ∀ m2 i, i + m2 = n → LX8_gone_57 ln post (LX8_gone_44 ln post (m + 1)) (m2 + 1) S 68 x2 G.1 G.2 (nI c) (nI (shC f (T c) c 1 i)) (nI i) := by
        intro m2
        induction m2 with
        | zero =>
          intro i hi
          rw [LX8_gone_57]
          dsimp only
          unfold BX8_gone_108 BX8_gone_123
          rw [sh68_0 hs, dn_e, ln69 hl, al_l1 (by decide) (by decide), hk.1, if_pos (nI_le (by omega) (by omega)), show i = n by omega, lt_e, nI_1]
          by_cases u : G.2 ≤ nI (shC f (T c) c 1 n)
          · rw [if_pos u] at k
            simp only [if_pos u]
            exact k
          · rw [if_neg u] at k
            simp only [if_neg u]
            exact k
        | succ m2 ih2 =>
          intro i hi
          have k2 := ih2 (i + 1) (by omega)
          rw [shC] at k2
          rw [LX8_gone_57]
          dsimp only
          unfold BX8_gone_86
          rw [sh68_0 hs, dn_e, ln69 hl, al_l1 (by decide) (by decide), hk.1, if_neg (nI_ge (by omega) (by omega)), p_borne (T := T c) hs hl hk h14 (by omega) (by omega) (hT c i (by omega) (by omega)), lt_e, lt_e, lt_e, lt_e, nI_1]
          have iff : shV f (T c) c i ≤ 0 ↔ ¬ (1 : Int32) ≤ shV f (T c) c i := by
            simp only [i_le]
            have : (0 : Int32).toInt = 0 := rfl
            have : (1 : Int32).toInt = 1 := rfl
            omega
          by_cases u : (1 : Int32) ≤ shV f (T c) c i
          · rw [if_pos u] at k2
            rw [if_neg (fun q => iff.mp q u), nI_1]
            exact k2
          · rw [if_neg u] at k2
            rw [if_pos (iff.mpr u), show nI (shC f (T c) c 1 i) + 0 = nI (shC f (T c) c 1 i + 0) from nI_add _ 0]
            exact k2
      exact ⟨n + 1, inner n 0 (by omega)⟩
  exact ⟨9, key 8 0 (by omega)⟩
theorem s_gone {N : Nat} {ln : Nat → Nat} {S : HC} (h : PI N ln S) (a1 a2 : Int32) : wpX7_gone ln S 0 a1 a2 fun v S => wpX8_gone ln S 68 a1 a2 fun w S => OK N ln v w S := by
  obtain ⟨⟨hs, hl, -, -⟩, ⟨⟨n, hn⟩, hw⟩, -⟩ := id h
  have h14 := hn.1
  obtain ⟨f, fe, ye, z, x1, x2, x3, x4, y, hy, rfl⟩ := hn.out
  have no : ¬ ((0 ≤ a1 ∧ a1 ≤ 60) ∧ 0 ≤ a2 ∧ a2 ≤ 1) → wpX8_gone ln S 68 a1 a2 fun w S => OK N ln (-1000000001) w S := fun u => by
    unfold wpX8_gone BX8_gone_19
    rw [p_in]
    by_cases c1 : 0 ≤ a1 ∧ a1 ≤ 60
    · rw [bI_t c1, if_neg (by decide), p_in, bI_f (fun q => u ⟨c1, q⟩), if_pos rfl]
      exact ⟨rfl, h⟩
    · rw [bI_f c1, if_pos rfl]
      exact ⟨rfl, h⟩
  unfold wpX7_gone BX7_gone_19 wpX4_workOutAll
  by_cases c1 : a1 < 0
  · rw [if_pos c1]; exact no (fun q => absurd c1 (Int32.not_lt.mpr q.1.1))
  rw [if_neg c1]
  by_cases c2 : 60 < a1
  · rw [if_pos c2]; exact no (fun q => absurd c2 (Int32.not_lt.mpr q.1.2))
  rw [if_neg c2]
  by_cases c3 : a2 < 0
  · rw [if_pos c3]; exact no (fun q => absurd c3 (Int32.not_lt.mpr q.2.1))
  rw [if_neg c3]
  by_cases c4 : a2 ≤ 1
  · rw [if_pos c4]
    obtain ⟨c, hc, rfl⟩ := nI_of2 (n := 60) (M := 60) (x := a1) rfl c1 (Int32.not_lt.mp c2)
    have hv := yK_ok (fe := fe) c (n, f, z) x3
    have h14' := (yK_le (fe := fe) c (n, f, z) h14).1
    refine p_think hs hl (by omega) x1 h14 (fun S2 ye2 hx2 s2 t11 t24 => ?_)
    have hs2 := hs.sm s2
    obtain ⟨m, m1, m2, m3, m4⟩ := hw.th s2 t11 t24
    rw [sh0_4 hs2, dn_e, sh0_3 hs2, dn_e]
    refine p_look2 hs2 hl (Or.inr (Or.inr (Or.inl rfl))) hx2.1 hx2.2.1 h14' m1 m2 m3 m4 (fun S3 o k3 w3 g1 g2 => ?_)
    have s3 := s2.tr (look_sm g1 g2)
    have hs3 := hs.sm s3
    refine p_allOut hs3 hl (Or.inr (Or.inr (Or.inl rfl))) k3 hv h14' (fun S4 w4 => ?_)
    have s4 := s3.tr (wo_sm w4.1 w4.2.2)
    have hs4 := hs.sm s4
    refine p_xgone hs4 hl (Or.inr (Or.inr (Or.inl rfl))) (k3.ag (Or.inr (Or.inr (Or.inl rfl))) w4.1 w4.2.2) h14' w4.2.1 ?_
    unfold wpX8_gone
    try dsimp only
    rw [p_in, bI_t ⟨nI_pos' (by omega), show nI c ≤ 60 from nI_le (b := 60) hc (by decide)⟩, if_neg (by decide), p_in, bI_t ⟨Int32.not_lt.mp c3, c4⟩, if_neg (by decide)]
    refine p_thinks hs4 hl (fun S5 f5 => ?_)
    have hs5 := f5.sh hs4
    refine p_goesOn (A := (n, f, z)) hl (by omega) hs5 h14 ((x2.sm h14 s4).fl h14 f5) (fun S6 m6 d6 => ?_)
    have hs6 := d6.sh hs5
    have k6 := (((w3.wo w4.1 w4.2.2).fl f5).tm d6.tm).mk m6
    refine p_worksAll hs6 hl k6 hv h14' (fun S7 w7 => ?_)
    refine p_mgone (w7.1.sh hs6) hl (k6.ag w7.1) h14' w7.2 ?_
    exact p_putsBack (w7.1.sh hs6) hl (fun S8 f8 => ⟨rfl, h.sm (TM.back s4 f5 (d6.tm.tr w7.1.tm) f8)⟩)
  · rw [if_neg c4]; exact no (fun q => c4 q.2.2)
-- 67.prepaint.lean.txt
/-! step repaint: one's first charge made another one -/
def rF (f : Nat → Nat → Int32) (p : Nat) (v : Int32) : Nat → Nat → Int32 := fun k j => if k = 4 ∧ j = p then v else f k j
theorem rF_n {f : Nat → Nat → Int32} {p : Nat} {v : Int32} {k j : Nat} (h : k ≠ 4) : rF f p v k j = f k j := if_neg (fun q => h q.1)
theorem rF_o {f : Nat → Nat → Int32} {p : Nat} {v : Int32} {k j : Nat} (h : j ≠ p) : rF f p v k j = f k j := if_neg (fun q => h q.2)
theorem rF_s {f : Nat → Nat → Int32} {p : Nat} {v : Int32} : rF f p v 4 p = v := if_pos ⟨rfl, rfl⟩
theorem rF_id {f : Nat → Nat → Int32} {p : Nat} {v : Int32} (h : f 4 p = v) : rF f p v = f := by
  funext k j
  unfold rF
  split
  · next q => rw [q.1, q.2]; exact h.symm
  · rfl
theorem rF_rF {f : Nat → Nat → Int32} {p : Nat} {v w : Int32} : rF (rF f p v) p w = rF f p w := by
  funext k j
  unfold rF
  by_cases q : k = 4 ∧ j = p
  · rw [if_pos q, if_pos q]
  · rw [if_neg q, if_neg q, if_neg q]
theorem rF_ok {n : Nat} {f : Nat → Nat → Int32} {p : Nat} {v : Int32} (h : VP n f) (hv : ∃ c, c < 8 ∧ v = nI c) : VP n (rF f p v) := by
  intro k j hk hj
  by_cases q : k = 4 ∧ j = p
  · unfold rF
    rw [if_pos q]
    obtain ⟨q1, q2⟩ := q
    subst q1
    exact ⟨by omega, by omega, by omega, fun _ => hv, by omega⟩
  · unfold rF
    rw [if_neg q]; exact h k j hk hj
theorem herP_rF {n : Nat} {f : Nat → Nat → Int32} {p : Nat} {v : Int32} {j : Nat} : herP n (rF f p v) j ↔ herP n f j := by
  unfold herP
  simp only [rF_n (f := f) (p := p) (v := v) (k := 3) (by decide), rF_n (f := f) (p := p) (v := v) (k := 1) (by decide)]
theorem herB_rF {n : Nat} {f : Nat → Nat → Int32} {p : Nat} {v : Int32} : ∀ i, herB n (rF f p v) i = herB n f i := by
  intro i
  induction i with
  | zero => rfl
  | succ i ih =>
    rw [herB, herB, ih]
    by_cases e : herP n f i
    · rw [if_pos e, if_pos (herP_rF.mpr e)]
    · rw [if_neg e, if_neg (fun q => e (herP_rF.mp q))]
theorem byK_c {k h mo : Int32} {A B : Prop} [Decidable A] [Decidable B] (e : A ↔ B) : byK k A h mo = byK k B h mo := by
  unfold byK
  by_cases a : A
  · have b := e.mp a
    simp only [if_pos a, if_pos b]
  · have b := fun q => a (e.mpr q)
    simp only [if_neg a, if_neg b]
theorem pt1_rF {n : Nat} {f : Nat → Nat → Int32} {o : Option ((Nat → Int32) × Nat)} {ch : Int32} {T : Nat → Int32} {p i : Nat} {v : Int32} (h1 : f 4 p ≠ ch) (h2 : v ≠ ch) : pt1 n (rF f p v) o ch T i = pt1 n f o ch T i := by
  have e4 : (rF f p v 4 i = ch) ↔ (f 4 i = ch) := by
    by_cases q : i = p
    · subst q
      rw [rF_s]
      exact ⟨fun u => absurd u h2, fun u => absurd u h1⟩
    · rw [rF_o q]
  have eh : ptH n (rF f p v) o ch T i = ptH n f o ch T i := by
    unfold ptH
    rw [rF_n (k := 1) (by decide), rF_n (k := 2) (by decide)]
    by_cases q : f 1 i = -1
    · rw [if_pos q, if_pos q]
      by_cases u : f 4 i = ch
      · rw [if_pos u, if_pos (e4.mpr u)]
      · rw [if_neg u, if_neg (fun w => u (e4.mp w))]
    · rw [if_neg q, if_neg q]
      by_cases u : ¬ f 2 i = -1 ∧ herP n f (ixN (f 2 i))
      · rw [if_pos u, if_pos ⟨u.1, herP_rF.mpr u.2⟩]
      · rw [if_neg u, if_neg (fun w => u ⟨w.1, herP_rF.mp w.2⟩)]
  unfold pt1
  rw [eh, rF_n (k := 0) (by decide), rF_n (k := 2) (by decide)]
  exact byK_c e4
theorem ptT_rF {n : Nat} {f : Nat → Nat → Int32} {o : Option ((Nat → Int32) × Nat)} {ch : Int32} {p : Nat} {v : Int32} (h1 : f 4 p ≠ ch) (h2 : v ≠ ch) : ∀ i, ptT n (rF f p v) o ch i = ptT n f o ch i := by
  intro i
  induction i with
  | zero => rfl
  | succ i ih => rw [ptT, ptT, ih, pt1_rF h1 h2]
/-- the class's shields stand worked out for the thought land, with the people g -/
def RS (ln : Nat → Nat) (N : Nat) (S : HC) (n : Nat) (g : Nat → Nat → Int32) (o : Option ((Nat → Int32) × Nat)) : Prop := LK ln N S 17 n g o ∧ ∀ ch j, ch < 8 → j < n → hI S 26 (14 * ch + j) = ptT n g o (nI ch) n j
def RP (S S' : HC) : Prop := (∀ r k, r ≠ 22 → r ≠ 26 → r ≠ 28 → hI S' r k = hI S r k) ∧ ∀ r k, hR S' r k = hR S r k
theorem RP.rf (S : HC) : RP S S := ⟨fun _ _ _ _ _ => rfl, fun _ _ => rfl⟩
theorem RP.tr {S S' S'' : HC} (h : RP S S') (h2 : RP S' S'') : RP S S'' := ⟨fun r k u1 u2 u3 => (h2.1 r k u1 u2 u3).trans (h.1 r k u1 u2 u3), fun r k => (h2.2 r k).trans (h.2 r k)⟩
theorem RP.sh {S S' : HC} (h : RP S S') (hs : SH S) : SH S' := hs.of (fun _ _ => h.2 _ _)
theorem RP.sm {S S' : HC} (h : RP S S') : Sm S S' := ⟨fun r k u => h.1 r k (fun v => u (by unfold sc; omega)) (fun v => u (by unfold sc; omega)) (fun v => u (by unfold sc; omega)), fun r k _ _ _ => h.2 r k⟩
theorem p_repT {ln : Nat → Nat} {N : Nat} {S : HC} {n p a c : Nat} {g : Nat → Nat → Int32} {o : Option ((Nat → Int32) × Nat)} {post : HC → Prop} (hs : SH S) (hl : LN ln) (hr : RS ln N S n g o) (hv : VP n g) (h14 : n ≤ 14) (hp : p < n) (hc : c < 8) (ha : a < 8) (ga : g 4 p = nI a) (h : ∀ S', RS ln N S' n (rF g p (nI c)) o → RP S S' → post S') : wpX7_repaintThought ln S 0 (nI p) (nI c) post := by
  obtain ⟨⟨k1, k2, k3, k4, k5⟩, ht⟩ := id hr
  have e22 : hI S 22 p = nI a := (k4 4 (by decide) p hp).trans ga
  unfold wpX7_repaintThought
  rw [sh0_3 hs, dn_e, sh17_4 hs, dn_e, ln22 hl, al_e (by omega) (by decide), e22]
  by_cases e : a = c
  · subst e
    rw [if_pos rfl]
    refine h S ?_ (RP.rf S)
    rw [rF_id ga]
    exact hr
  · rw [if_neg (fun q => e ((nI_eq (by omega) (by omega)).mp q)), dn_e, sh17_4 hs, dn_e, ln22 hl, as_e (by omega) (by decide)]
    have hs1 : SH (sI S 22 p (nI c)) := hs.sI _ _ _
    have hv1 : VP n (rF g p (nI c)) := rF_ok hv ⟨c, hc, rfl⟩
    have kk : LK ln N (sI S 22 p (nI c)) 17 n (rF g p (nI c)) o := by
      refine ⟨k1, by rw [hI_row (by decide), herB_rF]; exact k2, by rw [hI_row (by decide)]; exact k3, fun k hk j hj => ?_, ?_⟩
      · unfold xf
        by_cases q : k = 4 ∧ j = p
        · rw [q.1, q.2, rF_s]; exact hI_self _ _ _ _
        · rw [hI_ne (by omega)]
          unfold rF
          rw [if_neg q]; exact k4 k hk j hj
      · rcases k5 with u | ⟨q, t, c2, am, ham, e1, e2, e3⟩
        · exact Or.inl u
        · refine Or.inr ⟨q, t, c2, am, ham, e1, e2.ag (fun r k u => hI_row (by omega)) (fun _ _ _ => rfl) (fun k _ => hI_row (by omega)), ?_⟩
          rw [e3]
          congr 2
          funext i
          exact (hI_row (by omega)).symm
    rw [sh0_4 hs1, dn_e]
    refine p_workOut hs1 hl (Or.inr (Or.inr (Or.inl rfl))) kk hv1 h14 ha (fun S2 w2 => ?_)
    have hs2 : SH S2 := hs1.of (fun _ _ => w2.2.2.2 _ _)
    have kk2 := kk.ag (Or.inr (Or.inr (Or.inl rfl))) w2.1 w2.2.2.2
    rw [sh0_4 hs2, dn_e]
    refine p_workOut hs2 hl (Or.inr (Or.inr (Or.inl rfl))) kk2 hv1 h14 hc (fun S3 w3 => ?_)
    have kk3 := kk2.ag (Or.inr (Or.inr (Or.inl rfl))) w3.1 w3.2.2.2
    refine h S3 ⟨kk3, fun ch j u1 u2 => ?_⟩ ⟨fun r k u1 u2 u3 => by rw [w3.1 r k u2 u3, w2.1 r k u2 u3, hI_row u1], fun r k => by rw [w3.2.2.2, w2.2.2.2]; rfl⟩
    by_cases q1 : ch = c
    · subst q1; exact w3.2.2.1 j u2
    · rw [w3.2.1 _ (by omega)]
      by_cases q2 : ch = a
      · subst q2; exact w2.2.2.1 j u2
      · rw [w2.2.1 _ (by omega), hI_row (by decide), ht ch j u1 u2, ptT_rF (by rw [ga]; exact fun q => q2 ((nI_eq (by omega) (by omega)).mp q).symm) (fun q => q1 ((nI_eq (by omega) (by omega)).mp q).symm)]
def clK (n : Nat) (o : Option ((Nat → Int32) × Nat)) (g : Nat → Nat → Int32) : Int32 := nI (clI g (fun ch => ptT n g o (nI ch) n) n)
def rpI (n : Nat) (f : Nat → Nat → Int32) (o : Option ((Nat → Int32) × Nat)) (p : Nat) : Nat → Int32 × Int32 → Int32 × Int32
  | 0, G => G
  | c + 1, G => if nI c = f 4 p ∨ (rpI n f o p c G).2 ≤ clK n o (rF f p (nI c)) then rpI n f o p c G else (nI (10 * p + c), clK n o (rF f p (nI c)))
def rpO (n : Nat) (f : Nat → Nat → Int32) (o : Option ((Nat → Int32) × Nat)) : Nat → Int32 × Int32
  | 0 => (-1, clK n o f)
  | p + 1 => if f 1 p = -1 then rpI n f o p 8 (rpO n f o p) else rpO n f o p
def bX (b : Int32) : Int32 := if 0 ≤ b then b else -1000000005
theorem rpI_le {n : Nat} {f : Nat → Nat → Int32} {o : Option ((Nat → Int32) × Nat)} {p : Nat} {G : Int32 × Int32} {K : Int32} (h : G.2 ≤ K) : ∀ c, (rpI n f o p c G).2 ≤ K := by
  intro c
  induction c with
  | zero => exact h
  | succ c ih =>
    rw [rpI]
    by_cases q : nI c = f 4 p ∨ (rpI n f o p c G).2 ≤ clK n o (rF f p (nI c))
    · rw [if_pos q]; exact ih
    · rw [if_neg q]
      have q2 : ¬ (rpI n f o p c G).2 ≤ clK n o (rF f p (nI c)) := fun u => q (Or.inr u)
      dsimp only
      simp only [i_le] at *
      omega
theorem rpO_le {n : Nat} {f : Nat → Nat → Int32} {o : Option ((Nat → Int32) × Nat)} : ∀ p, (rpO n f o p).2 ≤ clK n o f := by
  intro p
  induction p with
  | zero => rw [rpO]; exact Int32.le_refl _
  | succ p ih =>
    rw [rpO]
    split
    · exact rpI_le ih 8
    · exact ih
theorem p_xrepaint {ln : Nat → Nat} {N : Nat} {S : HC} {n : Nat} {f : Nat → Nat → Int32} {o : Option ((Nat → Int32) × Nat)} {post : Int32 → HC → Prop} (hs : SH S) (hl : LN ln) (hr : RS ln N S n f o) (hv : VP n f) (h14 : n ≤ 14) (h : ∀ S', RP S S' → post (bX (rpO n f o n).1) S') : ∃ k, LX7_repaint_35 ln post k S 0 (clK n o f) (-1000000005) 0 := by
  have hb : LB 17 := Or.inr (Or.inr (Or.inl rfl))
  have key : ∀ m p S', p + m = n → RS ln N S' n f o → RP S S' → LX7_repaint_35 ln post (m + 1) S' 0 (rpO n f o p).2 (bX (rpO n f o p).1) (nI p) := by
    intro m
    induction m with
    | zero =>
      intro p S' hp hr' hd
      have e : p = n := by omega
      subst e
      rw [LX7_repaint_35]
      dsimp only
      rw [sh0_3 (hd.sh hs), dn_e, lt_e, hr'.1.2.2.1, if_pos (nI_le (by omega) (by omega))]
      exact h S' hd
    | succ m ih =>
      intro p S' hp hr' hd
      have hs' := hd.sh hs
      rw [LX7_repaint_35]
      dsimp only
      rw [sh0_3 hs', dn_e, lt_e, hr'.1.2.2.1, if_neg (nI_ge (by omega) (by omega)), dn_e, sh17_1 hs', dn_e, ln19 hl, al_e (by omega) (by decide), show hI S' 19 p = f 1 p from hr'.1.2.2.2.1 1 (by decide) p (by omega)]
      have nx := fun S2 q1 q2 => ih (p + 1) S2 (by omega) q1 q2
      unfold BX7_repaint_126
      by_cases q : f 1 p = -1
      · rw [if_pos q, dn_e, sh17_4 hs', dn_e, ln22 hl, al_e (by omega) (by decide), show hI S' 22 p = f 4 p from hr'.1.2.2.2.1 4 (by decide) p (by omega)]
        obtain ⟨a, ha, ea⟩ := hv.fst (j := p) (by omega)
        have le0 := rpO_le (n := n) (f := f) (o := o) p
        rw [rpO, if_pos q] at nx
        generalize rpO n f o p = G at nx le0 ⊢
        have inner : ∀ m2 c S2, c + m2 = 8 → RS ln N S2 n f o → RP S S2 → LX7_repaint_73 ln post (LX7_repaint_35 ln post (m + 1)) (m2 + 1) S2 0 (rpI n f o p c G).2 (bX (rpI n f o p c G).1) (nI p) (f 4 p) (nI c) := by
          intro m2
          induction m2 with
          | zero =>
            intro c S2 hc r2 d2
            have e : c = 8 := by omega
            subst e
            rw [LX7_repaint_73]
            dsimp only
            unfold BX7_repaint_126
            rw [if_pos (by decide), lt_e, nI_1]
            exact nx S2 r2 d2
          | succ m2 ih2 =>
            intro c S2 hc r2 d2
            have hs2 := d2.sh hs
            have k := fun S3 u1 u2 => ih2 (c + 1) S3 (by omega) u1 u2
            rw [rpI] at k
            have le1 := rpI_le (n := n) (f := f) (o := o) (p := p) le0 c
            generalize rpI n f o p c G = G1 at k le1 ⊢
            rw [LX7_repaint_73]
            dsimp only
            rw [if_neg (show ¬ (8 : Int32) ≤ nI c from nI_ge (b := 8) (by omega) (by decide))]
            refine p_repT hs2 hl r2 hv h14 (by omega) (by omega) ha ea (fun S3 r3 d3 => ?_)
            have hs3 := d3.sh hs2
            rw [sh0_4 hs3, dn_e]
            refine p_clashes hs3 hl hb r3.1 h14 r3.2 (fun ch j => ptT_ok _ j) (fun S4 g1 g2 => ?_)
            have hs4 : SH S4 := hs3.of (fun _ _ => g2 _ _)
            have d4 : RP S3 S4 := ⟨fun r k _ _ _ => g1 r k, g2⟩
            have r4 : RS ln N S4 n (rF f p (nI c)) o := ⟨r3.1.ag hb (fun q k _ _ => g1 q k) g2, fun ch j u1 u2 => by rw [g1]; exact r3.2 ch j u1 u2⟩
            have back : ∀ {b1 b2 : Int32}, (∀ S3, RS ln N S3 n f o → RP S S3 → LX7_repaint_73 ln post (LX7_repaint_35 ln post (m + 1)) (m2 + 1) S3 0 b1 b2 (nI p) (f 4 p) (nI (c + 1))) → BX7_repaint_113 ln post (LX7_repaint_35 ln post (m + 1)) (LX7_repaint_73 ln post (LX7_repaint_35 ln post (m + 1)) (m2 + 1)) S4 0 b1 b2 (nI p) (f 4 p) (nI c) := fun kx => by
              unfold BX7_repaint_113
              rw [ea] at kx ⊢
              refine p_repT hs4 hl r4 (rF_ok hv ⟨c, by omega, rfl⟩) h14 (by omega) ha (by omega) rF_s (fun S5 r5 d5 => ?_)
              rw [lt_e, nI_1]
              refine kx S5 ?_ (((d2.tr d3).tr d4).tr d5)
              rw [rF_rF, rF_id ea] at r5
              exact r5
            show (if G1.2 ≤ clK n o (rF f p (nI c)) then _ else _)
            by_cases q1 : nI c = f 4 p
            · rw [if_pos (Or.inl q1)] at k
              rw [if_pos (by rw [rF_id q1.symm]; exact le1)]
              exact back k
            · by_cases q2 : G1.2 ≤ clK n o (rF f p (nI c))
              · rw [if_pos (Or.inr q2)] at k
                rw [if_pos q2]
                exact back k
              · rw [if_neg (fun u => u.elim q1 q2)] at k
                rw [if_neg q2, lt_e, lt_e, show (10 : Int32) * nI p = nI (10 * p) from pk_mul 10 p, nI_add]
                refine back ?_
                have eb : bX (nI (10 * p + c)) = nI (10 * p + c) := if_pos (nI_pos' (by omega))
                dsimp only at k
                rw [eb] at k
                exact k
        exact ⟨9, inner 8 0 S' (by omega) hr' hd⟩
      · rw [if_neg q, lt_e, nI_1]
        rw [rpO, if_neg q] at nx
        exact nx S' hr' hd
  exact ⟨n + 1, key n 0 S (by omega) hr (RP.rf S)⟩
-- 68.prepaint2.lean.txt
/-! step repaint, the reference's side -/
def RM (S S' : HC) (p : Nat) : Prop := (∀ q k, q ≠ 72 → q ≠ 80 → q ≠ 81 → ¬ (q = 69 ∧ k = 5 + 6 * p + 4) → hI S' q k = hI S q k) ∧ ∀ q k, hR S' q k = hR S q k
theorem MC.rm {S S' : HC} (h : MC S S') (p : Nat) : RM S S' p := ⟨fun q k u1 u2 u3 _ => h.1 q k u1 u2 u3, h.2⟩
theorem MK.rp {ln : Nat → Nat} {N : Nat} {S : HC} {n p : Nat} {g : Nat → Nat → Int32} {o : Option ((Nat → Int32) × Nat)} {v : Int32} (h : MK ln N S 17 n g o) (hp : p < 14) : MK ln N (sI S 69 (5 + 6 * p + 4) v) 17 n (rF g p v) o := by
  obtain ⟨a1, a2, a3⟩ := h
  have w : MW ln N S 17 o := a3
  refine ⟨by rw [hI_ne (by omega)]; exact a1, fun k hk j hj => ?_, w.ag (fun k u => hI_ne (by omega)) (fun r k u => hI_row (by omega)) (fun _ _ => rfl)⟩
  show hI _ 69 (5 + 6 * j + k) = _
  by_cases q : k = 4 ∧ j = p
  · rw [q.1, q.2, rF_s, hI_self]
  · rw [hI_ne (by omega), show rF g p v k j = g k j from if_neg q]
    exact a2 k hk j hj
theorem p_mrepaint {ln : Nat → Nat} {N : Nat} {S : HC} {n : Nat} {f : Nat → Nat → Int32} {o : Option ((Nat → Int32) × Nat)} {post : Int32 → HC → Prop} (hs : SH S) (hl : LN ln) (hk : MK ln N S 17 n f o) (hv : VP n f) (h14 : n ≤ 14) (h : ∀ S', MC S S' → post (bX (rpO n f o n).1) S') : ∃ k, LX8_repaint_9 ln post k S 68 (-1) (clK n o f) 0 := by
  have key : ∀ m p S', p + m = n → MC S S' → LX8_repaint_9 ln post (m + 1) S' 68 (rpO n f o p).1 (rpO n f o p).2 (nI p) := by
    intro m
    induction m with
    | zero =>
      intro p S' hp hd
      have e : p = n := by omega
      subst e
      rw [LX8_repaint_9]
      dsimp only
      rw [sh68_0 (hd.sh hs), dn_e, ln69 hl, al_l1 (by decide) (by decide), (hk.ag hd).1, if_pos (nI_le (by omega) (by omega)), p_told0]
      exact h S' hd
    | succ m ih =>
      intro p S' hp hd
      have hs' := hd.sh hs
      have k' := hk.ag hd
      rw [LX8_repaint_9]
      dsimp only
      rw [sh68_0 hs', dn_e, ln69 hl, al_l1 (by decide) (by decide), k'.1, if_neg (nI_ge (by omega) (by omega)), p_of4 hs' hl (by omega), k'.2.1 4 (by decide) p (by omega)]
      have nx := fun S2 q1 => ih (p + 1) S2 (by omega) q1
      have rest : ∀ (S2 : HC) (b1 b2 : Int32), RM S S2 p → (∀ S3, MC S S3 → LX8_repaint_9 ln post (m + 1) S3 68 b1 b2 (nI (p + 1))) → BX8_repaint_111 ln post (LX8_repaint_9 ln post (m + 1)) S2 68 b1 b2 (nI p) (f 4 p) := fun S2 b1 b2 d2 kx => by
        unfold BX8_repaint_111
        rw [sh68_0 (hs.of (fun _ _ => d2.2 _ _)), dn_e]
        simp only [lt_e]
        rw [show (6 : Int32) * nI p = nI (6 * p) from pk_mul 6 p, show (5 : Int32) + nI (6 * p) = nI (5 + 6 * p) from nI_add 5 (6 * p), show nI (5 + 6 * p) + 4 = nI (5 + 6 * p + 4) from nI_add _ 4, ln69 hl, as_e (by omega) (by decide), nI_1]
        refine kx _ ⟨fun q k u1 u2 u3 => ?_, fun q k => d2.2 q k⟩
        by_cases e : q = 69 ∧ k = 5 + 6 * p + 4
        · rw [e.1, e.2, hI_self]
          exact (hk.2.1 4 (by decide) p (by omega)).symm
        · rw [hI_ne e]; exact d2.1 q k u1 u2 u3 e
      rcases hv.fat (j := p) (by omega) with q | ⟨q0, hq0, q⟩
      · rw [rpO, if_pos q] at nx
        generalize rpO n f o p = G at nx ⊢
        have inner : ∀ m2 c S2 v, c + m2 = 8 → RM S S2 p → MK ln N S2 17 n (rF f p v) o → (∃ d, d < 8 ∧ v = nI d) → LX8_repaint_30 ln post (LX8_repaint_9 ln post (m + 1)) (m2 + 1) S2 68 (rpI n f o p c G).1 (rpI n f o p c G).2 (nI p) (f 4 p) (nI c) := by
          intro m2
          induction m2 with
          | zero =>
            intro c S2 v hc d2 k2 hv2
            have e : c = 8 := by omega
            subst e
            rw [LX8_repaint_30]
            dsimp only
            rw [if_pos (by decide)]
            exact rest S2 _ _ d2 nx
          | succ m2 ih2 =>
            intro c S2 v hc d2 k2 hv2
            have hs2 : SH S2 := hs.of (fun _ _ => d2.2 _ _)
            have k := fun S3 v u1 u2 u3 => ih2 (c + 1) S3 v (by omega) u1 u2 u3
            rw [rpI] at k
            generalize rpI n f o p c G = G1 at k ⊢
            rw [LX8_repaint_30]
            dsimp only
            rw [if_neg (show ¬ (8 : Int32) ≤ nI c from nI_ge (b := 8) (by omega) (by decide)), p_of1 hs2 hl (by omega), k2.2.1 1 (by decide) p (by omega), rF_n (by decide), q, if_neg (by decide)]
            unfold BX8_repaint_91 BX8_repaint_104 BX8_repaint_105
            by_cases q1 : nI c = f 4 p
            · rw [if_pos (Or.inl q1)] at k
              rw [if_pos q1, lt_e, nI_1]
              exact k S2 v d2 k2 hv2
            · rw [if_neg q1, sh68_0 hs2, dn_e]
              simp only [lt_e]
              rw [show (6 : Int32) * nI p = nI (6 * p) from pk_mul 6 p, show (5 : Int32) + nI (6 * p) = nI (5 + 6 * p) from nI_add 5 (6 * p), show nI (5 + 6 * p) + 4 = nI (5 + 6 * p + 4) from nI_add _ 4, ln69 hl, as_e (by omega) (by decide), nI_1]
              have k3 : MK ln N (sI S2 69 (5 + 6 * p + 4) (nI c)) 17 n (rF f p (nI c)) o := by
                have := k2.rp (p := p) (v := nI c) (by omega)
                rw [rF_rF] at this
                exact this
              refine p_mclashes (hs2.sI _ _ _) hl k3 (rF_ok hv ⟨c, by omega, rfl⟩) h14 (fun S4 c4 => ?_)
              have d4 : RM S S4 p := ⟨fun q k u1 u2 u3 u4 => by rw [c4.1 q k u1 u2 u3, hI_ne u4]; exact d2.1 q k u1 u2 u3 u4, fun q k => by rw [c4.2]; exact d2.2 q k⟩
              have k4 := k3.ag c4
              show (if G1.2 ≤ clK n o (rF f p (nI c)) then _ else _)
              by_cases q2 : G1.2 ≤ clK n o (rF f p (nI c))
              · rw [if_pos (Or.inr q2)] at k
                rw [if_pos q2]
                show (if G1.2 ≤ clK n o (rF f p (nI c)) then _ else _)
                rw [if_pos q2]
                exact k S4 _ d4 k4 ⟨c, by omega, rfl⟩
              · rw [if_neg (fun u => u.elim q1 q2)] at k
                rw [if_neg q2, show (10 : Int32) * nI p = nI (10 * p) from pk_mul 10 p, nI_add]
                show (if G1.2 ≤ clK n o (rF f p (nI c)) then _ else _)
                rw [if_neg q2]
                exact k S4 _ d4 k4 ⟨c, by omega, rfl⟩
        obtain ⟨a, ha, ea⟩ := hv.fst (j := p) (by omega)
        exact ⟨9, inner 8 0 S' (f 4 p) (by omega) (hd.rm p) (by rw [rF_id rfl]; exact k') ⟨a, ha, ea⟩⟩
      · have ne : ¬ f 1 p = -1 := by rw [q]; exact m1_ne (by omega)
        rw [rpO, if_neg ne] at nx
        refine ⟨1, ?_⟩
        rw [LX8_repaint_30]
        dsimp only
        rw [if_neg (by decide), p_of1 hs' hl (by omega), k'.2.1 1 (by decide) p (by omega), q, if_pos (nI_pos' (by omega))]
        exact rest S' _ _ (hd.rm p) nx
  exact ⟨n + 1, key n 0 S (by omega) (MC.rf S)⟩
theorem s_repaint {N : Nat} {ln : Nat → Nat} {S : HC} (h : PI N ln S) : wpX7_repaint ln S 0 fun v S => wpX8_repaint ln S 68 fun w S => OK N ln v w S := by
  obtain ⟨⟨hs, hl, -, -⟩, ⟨⟨n, hn⟩, hw⟩, -⟩ := id h
  have h14 := hn.1
  obtain ⟨f, fe, ye, z, x1, x2, x3, x4, x5⟩ := hn.out
  have hb : LB 17 := Or.inr (Or.inr (Or.inl rfl))
  unfold wpX7_repaint wpX4_workOutAll
  rw [sh0_3 hs, dn_e, sh0_0 hs, dn_e]
  refine p_become hs hl hb (Or.inl rfl) (by omega) (fun S1 f1 => ?_)
  have hs1 : SH S1 := hs.sm f1.sm
  have y1 : XA S1 17 n f fe ye z := x1.bc h14 f1
  obtain ⟨m, m1, m2, m3, m4⟩ := hw.th f1.sm (f1.2.2.1 11 (by omega)) f1.2.2.2.2
  rw [sh0_4 hs1, dn_e, sh0_3 hs1, dn_e]
  refine p_look2 hs1 hl hb y1.1 y1.2.1 h14 m1 m2 m3 m4 (fun S2 o k2 w2 g1 g2 => ?_)
  have s2 := f1.sm.tr (look_sm g1 g2)
  have hs2 := hs.sm s2
  refine p_allOut hs2 hl hb k2 x3 h14 (fun S3 w3 => ?_)
  have s3 := s2.tr (wo_sm w3.1 w3.2.2)
  have hs3 := hs.sm s3
  have k3 := k2.ag hb w3.1 w3.2.2
  rw [sh0_4 hs3, dn_e]
  refine p_clashes hs3 hl hb k3 h14 w3.2.1 (fun ch j => ptT_ok _ j) (fun S4 q1 q2 => ?_)
  have s4 := s3.tr (wo_sm (fun q k _ _ => q1 q k) q2)
  have hs4 := hs.sm s4
  refine p_xrepaint hs4 hl ⟨k3.ag hb (fun q k _ _ => q1 q k) q2, fun ch j u1 u2 => by rw [q1]; exact w3.2.1 ch j u1 u2⟩ x3 h14 (fun S5 d5 => ?_)
  have s5 := s4.tr d5.sm
  have hs5 := hs.sm s5
  have w5 : MW ln N S5 17 o := ((w2.wo w3.1 w3.2.2).wo (fun q k _ _ => q1 q k) q2).ag (fun k _ => d5.1 _ _ (by decide) (by decide) (by decide)) (fun r k u => d5.1 r k (by omega) (by omega) (by omega)) d5.2
  have k5 := w5.mk (x2.sm h14 s5)
  unfold wpX8_repaint
  try dsimp only
  refine p_mclashes hs5 hl k5 x3 h14 (fun S6 c6 => ?_)
  exact p_mrepaint (c6.sh hs5) hl (k5.ag c6) x3 h14 (fun S7 c7 => ⟨rfl, h.sm (s5.tr (c6.tr c7).sm)⟩)
-- 69.pcheck.lean.txt
/-! step check: the years told, from the image -/
theorem evF_cd {a b e : Int32} {cd cd' : Nat → Int32} : ∀ (n i d : Nat) (st : Nat → Int32), (∀ t, i ≤ t → t < i + n → cd t = cd' t) → evF a b e cd n i st d = evF a b e cd' n i st d := by
  intro n
  induction n with
  | zero => intro i d st _; rfl
  | succ n ih =>
    intro i d st h
    rw [evF, evF, h i (by omega) (by omega)]
    first
      | exact ih (i + 1) _ _ (fun t q1 q2 => h t (by omega) (by omega))
      | (repeat' split) <;> exact ih (i + 1) _ _ (fun t q1 q2 => h t (by omega) (by omega))
theorem MWr.uq {ln : Nat → Nat} {N : Nat} {S : HC} {b b' a : Nat} {o o' : Option ((Nat → Int32) × Nat)} (h : MWr ln N S b a o) (h' : MWr ln N S b' a o') : o = o' := by
  obtain ⟨m, m1, m2, -, m4⟩ := h
  obtain ⟨m', m1', m2', -, m4'⟩ := h'
  have e : m = m' := (nI_eq (by omega) (by omega)).mp (m2.symm.trans m2')
  subst e
  rcases m4 with ⟨u1, u2⟩ | ⟨q, t, c, t1, t2, t3, t4⟩
  · rcases m4' with ⟨v1, v2⟩ | ⟨q', t', c', v1, v2, v3, v4⟩
    · rw [u2, v2]
    · exact absurd (v2.symm.trans u1) (m1_ne (by omega))
  · rcases m4' with ⟨v1, v2⟩ | ⟨q', t', c', v1, v2, v3, v4⟩
    · exact absurd (t2.symm.trans v1) (m1_ne (by omega))
    · have et : t = t' := (nI_eq (by omega) (by omega)).mp (t2.symm.trans v2)
      subst et
      have c1 := t3.2.2.1.2.2
      have c2 := v3.2.2.1.2.2
      have ec : 1000 * 0 + c = 1000 * 0 + c' := (nI_eq (by omega) (by omega)).mp (t3.2.2.2.2.1.symm.trans v3.2.2.2.2.1)
      have ec2 : c = c' := by omega
      rw [t4, v4, ec2]
theorem MWr.ex {ln : Nat → Nat} {N : Nat} {S : HC} {b a : Nat} (h : LWR ln N S b a) : ∃ o, MWr ln N S b a o := by
  obtain ⟨m, m1, m2, m3, m4⟩ := h
  rcases lastL_ok (ksM S a) 0 m with e | ⟨t, t1, t2, t3⟩
  · exact ⟨none, m, m1, m3, m4, Or.inl ⟨e, rfl⟩⟩
  · obtain ⟨q, key, c, q1, q2⟩ := m4 t t1
    have ek : key = 0 := by rw [← q2.ks, t2]
    subst ek
    exact ⟨_, m, m1, m3, m4, Or.inr ⟨q, t, c, t1, t3, q2, rfl⟩⟩
theorem JF_cd {cd cd' : Nat → Int32} {c : Nat} {l r ch : Int32} (h : ∀ i, i < c → cd i = cd' i) : JF (some (cd, c)) l r ch = JF (some (cd', c)) l r ch := by
  unfold JF
  dsimp only
  rw [evF_cd c 0 0 (fun _ => 0) (fun i _ hi => h i (by omega))]
/-- the row a copied to the row a' -/
theorem MWr.cp {ln : Nat → Nat} {N : Nat} {S S' : HC} {b b' a a' : Nat} {o : Option ((Nat → Int32) × Nat)} (h : MWr ln N S b a o) (h1 : ∀ r k, 91 ≤ r → hI S' r k = hI S r k) (h2 : ∀ r k, 91 ≤ r → hR S' r k = hR S r k) (h3 : ∀ k, k < 1461 → hI S' a' k = hI S a k) (h6 : ∀ k, k < 14 → hR S' (b' + 7) k = hR S (b + 7) k) : ∃ o', MWr ln N S' b' a' o' ∧ ∀ l r ch, JF o' l r ch = JF o l r ch := by
  obtain ⟨m, m1, m2, m3, m4⟩ := h
  have ks : ∀ t, t < m → ksM S' a' t = ksM S a t := fun t ht => by unfold ksM; rw [h3 _ (by omega)]
  have e4 : hI S' a' 4 = nI m := by rw [h3 4 (by omega)]; exact m2
  have lk : ∀ i, i ≤ m → lastL (ksM S' a') 0 i = lastL (ksM S a) 0 i := by
    intro i
    induction i with
    | zero => intro _; rw [lastL, lastL]
    | succ i ih =>
      intro hi
      have e1 := ks i (by omega)
      have e2 := ih (by omega)
      show (if ksM S' a' i = 0 then nI i else lastL (ksM S' a') 0 i) = (if ksM S a i = 0 then nI i else lastL (ksM S a) 0 i)
      rw [e1, e2]
  have m3' : ∀ t, t < m → ∃ q key c, hR S' (b' + 7) t = some q ∧ LAW ln N S' q a' t key c := fun t ht => by
    obtain ⟨q, key, c, q1, q2⟩ := m3 t ht
    exact ⟨q, key, c, by rw [h6 t (by omega)]; exact q1, q2.cp (by omega) h1 h2 h3⟩
  rcases m4 with ⟨u1, u2⟩ | ⟨q, t, c, t1, t2, t3, t4⟩
  · exact ⟨none, ⟨m, m1, e4, m3', Or.inl ⟨by rw [lk m (Nat.le_refl _)]; exact u1, rfl⟩⟩, fun l r ch => by rw [u2]⟩
  · refine ⟨_, ⟨m, m1, e4, m3', Or.inr ⟨q, t, c, t1, by rw [lk m (Nat.le_refl _)]; exact t2, t3.cp (by omega) h1 h2 h3, rfl⟩⟩, fun l r ch => ?_⟩
    rw [t4]
    have hc := t3.2.2.1.2.2
    exact JF_cd (fun i hi => h3 _ (by omega))
theorem ptH_jo {n : Nat} {f : Nat → Nat → Int32} {o o' : Option ((Nat → Int32) × Nat)} {ch : Int32} {T : Nat → Int32} {i : Nat} (h : ∀ l r ch, JF o' l r ch = JF o l r ch) : ptH n f o' ch T i = ptH n f o ch T i := by
  unfold ptH
  simp only [h]
theorem ptT_jo {n : Nat} {f : Nat → Nat → Int32} {o o' : Option ((Nat → Int32) × Nat)} {ch : Int32} (h : ∀ l r ch, JF o' l r ch = JF o l r ch) : ∀ i, ptT n f o' ch i = ptT n f o ch i := by
  intro i
  induction i with
  | zero => rfl
  | succ i ih =>
    rw [ptT, ptT, ih]
    unfold pt1
    rw [ptH_jo h]
/-- what the class changes while it checks -/
def CS (S S' : HC) : Prop := (∀ r k, ¬ (17 ≤ r ∧ r ≤ 28) → hI S' r k = hI S r k) ∧ hI S' 17 11 = hI S 17 11 ∧ ∀ r k, ¬ (r = 25 ∧ (k = 3 ∨ k = 4)) → hR S' r k = hR S r k
theorem CS.rf (S : HC) : CS S S := ⟨fun _ _ _ => rfl, rfl, fun _ _ _ => rfl⟩
theorem CS.tr {S S' S'' : HC} (h : CS S S') (h2 : CS S' S'') : CS S S'' := ⟨fun r k u => (h2.1 r k u).trans (h.1 r k u), h2.2.1.trans h.2.1, fun r k u => (h2.2.2 r k u).trans (h.2.2 r k u)⟩
theorem CS.sm {S S' : HC} (h : CS S S') : Sm S S' := ⟨fun r k u => h.1 r k (fun v => u (by unfold sc; omega)), fun r k u _ _ => h.2.2 r k u⟩
theorem XS.cs {S S' : HC} (h : XS 17 S S') : CS S S' := ⟨fun r k u => h.1 r k (by omega), h.2.1, fun r k _ => h.2.2 r k⟩
theorem look_cs {S S' : HC} (e1 : ∀ r k, ¬ (r = 25 ∧ k = 5) → hI S' r k = hI S r k) (e2 : ∀ r k, ¬ (r = 25 ∧ (k = 3 ∨ k = 4)) → hR S' r k = hR S r k) : CS S S' := ⟨fun r k u => e1 r k (by omega), e1 _ _ (by omega), e2⟩
theorem wo_cs {S S' : HC} (e1 : ∀ q k, q ≠ 26 → q ≠ 28 → hI S' q k = hI S q k) (e2 : ∀ q k, hR S' q k = hR S q k) : CS S S' := ⟨fun r k u => e1 r k (by omega) (by omega), e1 _ _ (by decide) (by decide), fun r k _ => e2 r k⟩
def stA (fe : Int32) (A : LA) : LA := (yN A.1 A.2.1 fe A.2.2, yF A.1 A.2.1 fe A.2.2, yZ A.1 A.2.1 fe A.2.2)
/-- what all of a land bear of the charge 0 -/
def bA (o : Option ((Nat → Int32) × Nat)) (A : LA) : Int32 := sumB A.2.1 (ptT A.1 A.2.1 o (nI 0) A.1) 0 A.1
def ckF (fe : Int32) (o : Option ((Nat → Int32) × Nat)) (w : Nat) (V : Nat → Int32) : Nat → Nat → LA → Int32
  | 0, i, _ => if 2 * i = w then 0 else nI (1 + 2 * i)
  | m + 1, i, A => if 2 * i < w ∧ V (2 * i) = nI (stA fe A).1 then (if 2 * i + 1 < w ∧ V (2 * i + 1) = bA o (stA fe A) then ckF fe o w V m (i + 1) (stA fe A) else nI (1 + (2 * i + 1))) else nI (1 + 2 * i)
theorem p_isWait {ln : Nat → Nat} {S : HC} {r w : Nat} {V : Nat → Int32} {v : Int32} {post : Int32 → HC → Prop} (hs : SH S) (hl : LN ln) (hw : w ≤ 60) (hr : r < 1000) (hV : ∀ j, j < w → hI S 43 j = V j) (h1 : r < w ∧ V r = v → post 1 S) (h0 : ¬ (r < w ∧ V r = v) → post 0 S) : wpX7_isWaiting ln S 0 (nI r) (nI w) v post := by
  unfold wpX7_isWaiting BX7_isWaiting_29
  rw [if_neg (nI_pos (by omega)), rb_e0, rb_e1]
  by_cases q : r < w
  · rw [if_neg (nI_ge q (by omega)), if_neg (show ¬ (60 : Int32) ≤ nI r from nI_ge (b := 60) (by omega) (by decide)), sh0_8 hs, dn_e, ln43 hl, al_e (by omega) (by decide), hV r q]
    by_cases q2 : V r = v
    · rw [if_pos q2]; exact h1 ⟨q, q2⟩
    · rw [if_neg q2]; exact h0 (fun u => q2 u.2)
  · rw [if_pos (nI_le (by omega) (by omega))]; exact h0 (fun u => q u.1)
theorem p_xcheck {ln : Nat → Nat} {N : Nat} {S0 : HC} {fe : Int32} {o : Option ((Nat → Int32) × Nat)} {w sp mm : Nat} {V : Nat → Int32} {post : Int32 → HC → Prop} (hs0 : SH S0) (hl : LN ln) (hw : w ≤ 60) (hsp : sp ≤ 30) (hV : ∀ j, j < w → hI S0 43 j = V j) (m1 : mm ≤ 14) (m2 : hI S0 17 11 = nI mm) (m3 : hI S0 70 4 = nI mm) (m4 : ∀ t, t < mm → ∃ q key c, hR S0 (17 + 7) t = some q ∧ LAW ln N S0 q 70 t key c) (ho : MWr ln N S0 17 70 o) : ∀ (m i : Nat) (ye : Int32) (A : LA) (S : HC), i + m = sp → CS S0 S → A.1 ≤ 14 → VP A.1 A.2.1 → XA S 17 A.1 A.2.1 fe ye A.2.2 → (∀ S', CS S0 S' → post (ckF fe o w V m i A) S') → LX7_check_68 ln post (m + 1) S 0 (nI w) (nI sp) (nI (2 * i)) (nI i) := by
  have hb : LB 17 := Or.inr (Or.inr (Or.inl rfl))
  intro m
  induction m with
  | zero =>
    intro i ye A S hi hc h14 hv hx h
    rw [LX7_check_68]
    dsimp only
    rw [if_pos (nI_le (by omega) (by omega))]
    have q := h S hc
    rw [ckF] at q
    by_cases e : 2 * i = w
    · rw [if_pos e] at q
      rw [if_pos (by rw [e])]; exact q
    · rw [if_neg e] at q
      rw [if_neg (fun u => e ((nI_eq (by omega) (by omega)).mp u)), lt_e, show (1 : Int32) + nI (2 * i) = nI (1 + 2 * i) from nI_add 1 _]; exact q
  | succ m ih =>
    intro i ye A S hi hc h14 hv hx h
    have hs := hs0.sm hc.sm
    rw [LX7_check_68]
    dsimp only
    rw [if_neg (nI_ge (by omega) (by omega)), sh0_3 hs, dn_e]
    refine p_pass hs hl hb hx h14 (fun S1 hx1 hd1 => ?_)
    have c1 := hc.tr hd1.cs
    have hs1 := hs0.sm c1.sm
    obtain ⟨l1, l2, l3⟩ := yN_le (f := A.2.1) (fe := fe) (z := A.2.2) h14
    have hv1 := yF_ok (fe := fe) (z := A.2.2) hv
    rw [sh0_3 hs1, dn_e, lt_e, hx1.1]
    rw [ckF] at h
    refine p_isWait (V := V) hs1 hl hw (by omega) (fun j hj => by rw [c1.1 _ _ (by omega)]; exact hV j hj) (fun q => ?_) (fun q => ?_)
    · rw [if_pos (show 2 * i < w ∧ V (2 * i) = nI (stA fe A).1 from q)] at h
      rw [if_neg (by decide), lt_e, nI_1, sh0_3 hs1, dn_e]
      unfold wpX7_allBear
      rw [sh0_4 hs1, dn_e]
      have t4 : ∀ t, t < mm → ∃ q key c, hR S1 (17 + 7) t = some q ∧ LAW ln N S1 q 70 t key c := fun t ht => by
        obtain ⟨q, key, c, q1, q2⟩ := m4 t ht
        exact ⟨q, key, c, by rw [c1.2.2 _ _ (by omega)]; exact q1, q2.ag (fun r k u => c1.1 r k (by omega)) (fun r k u => c1.2.2 r k (by omega)) (fun k _ => c1.1 _ _ (by omega))⟩
      refine p_look3 (am := 70) hs1 hl hb (Or.inr rfl) hx1.1 hx1.2.1 l1 m1 (by rw [c1.2.1]; exact m2) (by rw [c1.1 _ _ (by omega)]; exact m3) t4 (fun S2 o2 k2 w2 g1 g2 => ?_)
      have c2 := c1.tr (look_cs g1 g2)
      have hs2 := hs0.sm c2.sm
      have eo : o2 = o := w2.uq (ho.ag (fun k _ => c2.1 _ _ (by omega)) (fun r k u => c2.1 r k (by omega)) (fun r k u => c2.2.2 r k (by omega)))
      subst eo
      rw [sh0_4 hs2, dn_e]
      refine p_workOut (ch := 0) hs2 hl hb k2 hv1 l1 (by decide) (fun S3 w3 => ?_)
      have c3 := c2.tr (wo_cs w3.1 w3.2.2.2)
      have hs3 := hs0.sm c3.sm
      rw [sh0_4 hs3, dn_e]
      refine p_together (ch := 0) hs3 hl hb (k2.ag hb w3.1 w3.2.2.2) l1 (by decide) w3.2.2.1 ?_
      refine p_isWait (V := V) hs3 hl hw (by omega) (fun j hj => by rw [c3.1 _ _ (by omega)]; exact hV j hj) (fun q2 => ?_) (fun q2 => ?_)
      · rw [if_pos (show 2 * i + 1 < w ∧ V (2 * i + 1) = bA o2 (stA fe A) from q2)] at h
        rw [if_neg (by decide), lt_e, nI_1, lt_e, nI_1]
        refine ih (i + 1) _ (stA fe A) S3 (by omega) c3 l1 hv1 (hx1.ag (fun r k u1 u2 => ?_)) h
        rw [w3.1 _ _ (by omega) (by omega), g1 _ _ (by omega)]
      · rw [if_neg (show ¬ (2 * i + 1 < w ∧ V (2 * i + 1) = bA o2 (stA fe A)) from q2)] at h
        rw [if_pos rfl, lt_e, show (1 : Int32) + nI (2 * i + 1) = nI (1 + (2 * i + 1)) from nI_add 1 _]
        exact h S3 c3
    · rw [if_neg (show ¬ (2 * i < w ∧ V (2 * i) = nI (stA fe A).1) from q)] at h
      rw [if_pos rfl, lt_e, show (1 : Int32) + nI (2 * i) = nI (1 + 2 * i) from nI_add 1 _]
      exact h S1 c1
-- 70.pcheck2.lean.txt
/-! step check, the reference's side -/
theorem bA_jo {o o' : Option ((Nat → Int32) × Nat)} {A : LA} (h : ∀ l r ch, JF o' l r ch = JF o l r ch) : bA o' A = bA o A := by
  unfold bA
  rw [ptT_jo h]
theorem ckF_jo {fe : Int32} {o o' : Option ((Nat → Int32) × Nat)} {w : Nat} {V : Nat → Int32} (h : ∀ l r ch, JF o' l r ch = JF o l r ch) : ∀ (m i : Nat) (A : LA), ckF fe o' w V m i A = ckF fe o w V m i A := by
  intro m
  induction m with
  | zero => intro i A; rw [ckF, ckF]
  | succ m ih => intro i A; rw [ckF, ckF, ih, bA_jo h]
theorem p_mcheck {ln : Nat → Nat} {N : Nat} {S0 : HC} {fe : Int32} {o : Option ((Nat → Int32) × Nat)} {w sp : Nat} {V : Nat → Int32} {post : Int32 → HC → Prop} (hs0 : SH S0) (hl : LN ln) (hw : w ≤ 60) (hsp : sp ≤ 30) (hV : ∀ j, j < w → hI S0 90 j = V j) (ho : MW ln N S0 17 o) : ∀ (m i : Nat) (ye : Int32) (A : LA) (S : HC), i + m = sp → TM S0 S → A.1 ≤ 14 → VP A.1 A.2.1 → MA S A.1 A.2.1 fe ye A.2.2 → (∀ S', TM S0 S' → wpX8_copyAll ln S' 71 69 fun S => post (ckF fe o w V m i A) S) → LX8_check_80 ln post (m + 1) S 68 (nI w) (nI (2 * sp)) (nI (2 * i)) (nI i) := by
  intro m
  induction m with
  | zero =>
    intro i ye A S hi hd h14 hv hx h
    have hs := hd.sh hs0
    have e : i = sp := by omega
    subst e
    rw [LX8_check_80]
    dsimp only
    unfold BX8_check_181 BX8_check_208
    rw [lt_e, show (2 : Int32) * nI i = nI (2 * i) from pk_mul 2 i, if_pos (nI_le (by omega) (by omega)), sh68_2 hs, dn_e, sh68_0 hs, dn_e]
    have q := h S hd
    rw [ckF] at q
    by_cases e : 2 * i = w
    · simp only [if_pos e] at q
      simp only [if_pos (show nI (2 * i) = nI w by rw [e]), if_true]
      exact q
    · simp only [if_neg e] at q
      simp only [if_neg (show ¬ nI (2 * i) = nI w from fun u => e ((nI_eq (by omega) (by omega)).mp u)), lt_e, show (1 : Int32) + nI (2 * i) = nI (1 + 2 * i) from nI_add 1 _]
      exact q
  | succ m ih =>
    intro i ye A S hi hd h14 hv hx h
    have hs := hd.sh hs0
    have fl : ∀ (S1 : HC) (r : Nat), TM S0 S1 → (r = 2 * i ∨ r = 2 * i + 1) → (∀ S', TM S0 S' → wpX8_copyAll ln S' 71 69 fun S => post (nI (1 + r)) S) → LX8_check_80 ln post (m + 1) S1 68 (nI w) (nI (2 * sp)) (nI r) (nI (i + 1)) := fun S1 r d1 hr hq => by
      have hs1 := d1.sh hs0
      have q := hq S1 d1
      have fin : BX8_check_181 ln post S1 68 (nI w) (nI (2 * sp)) (nI r) := by
        unfold BX8_check_181 BX8_check_208
        rw [sh68_2 hs1, dn_e, sh68_0 hs1, dn_e]
        simp only [lt_e, if_neg (show ¬ nI r = nI (2 * sp) from fun u => by have := (nI_eq (by omega) (by omega)).mp u; omega), ite_self, show (1 : Int32) + nI r = nI (1 + r) from nI_add 1 _]
        exact q
      rw [LX8_check_80]
      dsimp only
      rw [lt_e, lt_e, show (2 : Int32) * nI (i + 1) = nI (2 * (i + 1)) from pk_mul 2 (i + 1), if_neg (show ¬ nI r = nI (2 * (i + 1)) from fun u => by have := (nI_eq (by omega) (by omega)).mp u; omega)]
      split
      · exact fin
      · exact fin
    rw [LX8_check_80]
    dsimp only
    rw [lt_e, lt_e, show (2 : Int32) * nI i = nI (2 * i) from pk_mul 2 i, if_neg (nI_ge (by omega) (by omega)), if_pos rfl]
    refine p_year hs hl hx h14 (fun S1 hx1 hd1 => ?_)
    have d1 := hd.tr hd1.tm
    have hs1 := d1.sh hs0
    obtain ⟨l1, l2, l3⟩ := yN_le (f := A.2.1) (fe := fe) (z := A.2.2) h14
    have hv1 := yF_ok (fe := fe) (z := A.2.2) hv
    rw [ckF] at h
    have bad : (¬ (2 * i < w ∧ V (2 * i) = nI (stA fe A).1)) → BX8_check_129 ln post (LX8_check_80 ln post (m + 1)) S1 68 (nI w) (nI (2 * sp)) (nI i) (nI (2 * i)) := fun q => by
      rw [if_neg q] at h
      unfold BX8_check_129 BX8_check_130 BX8_check_171 BX8_check_172
      simp only [lt_e, Int32.add_zero]
      rw [show (2 : Int32) * nI i = nI (2 * i) from pk_mul 2 i, nI_1, nI_1, if_neg (show ¬ nI (2 * i) = nI (2 * i + 1) from fun u => by have := (nI_eq (by omega) (by omega)).mp u; omega)]
      exact fl S1 (2 * i) d1 (Or.inl rfl) h
    by_cases q1 : 2 * i < w
    · rw [if_neg (nI_ge q1 (by omega)), sh68_32 hs1, dn_e, ln90 hl, al_e (by omega) (by decide), d1.1 90 _ (by decide) (by decide) (by decide) (by decide), hV _ q1, sh68_0 hs1, dn_e, ln69 hl, al_l1 (by decide) (by decide), hx1.1]
      by_cases q2 : V (2 * i) = nI (stA fe A).1
      · rw [if_pos (show V (2 * i) = nI (yN A.1 A.2.1 fe A.2.2) from q2)]
        rw [if_pos ⟨q1, q2⟩] at h
        unfold BX8_check_130
        simp only [lt_e]
        rw [show (2 : Int32) * nI i = nI (2 * i) from pk_mul 2 i, nI_1, if_pos rfl]
        have bad2 : ∀ S2, TM S0 S2 → (¬ (2 * i + 1 < w ∧ V (2 * i + 1) = bA o (stA fe A))) → BX8_check_171 ln post (LX8_check_80 ln post (m + 1)) S2 68 (nI w) (nI (2 * sp)) (nI i) (nI (2 * i + 1)) := fun S2 d2 q => by
          rw [if_neg q] at h
          unfold BX8_check_171 BX8_check_172
          simp only [lt_e, Int32.add_zero]
          rw [nI_1]
          exact fl S2 (2 * i + 1) d2 (Or.inr rfl) h
        by_cases q3 : 2 * i + 1 < w
        · rw [if_neg (nI_ge q3 (by omega)), sh68_32 hs1, dn_e, ln90 hl, al_e (by omega) (by decide), d1.1 90 _ (by decide) (by decide) (by decide) (by decide), hV _ q3]
          refine p_mallBear (ch := 0) hs1 hl ((ho.tm d1).mk hx1) hv1 l1 (by decide) (fun S2 c2 => ?_)
          have d2 := d1.tr c2.tm
          by_cases q4 : V (2 * i + 1) = bA o (stA fe A)
          · rw [if_pos ⟨q3, q4⟩] at h
            rw [if_pos (show V (2 * i + 1) = sumB (yF A.1 A.2.1 fe A.2.2) (ptT (yN A.1 A.2.1 fe A.2.2) (yF A.1 A.2.1 fe A.2.2) o (nI 0) (yN A.1 A.2.1 fe A.2.2)) 0 (yN A.1 A.2.1 fe A.2.2) from q4)]
            unfold BX8_check_172
            simp only [lt_e]
            rw [nI_1, nI_1]
            exact ih (i + 1) _ (stA fe A) S2 (by omega) d2 l1 hv1 (hx1.ag l1 (fun k _ => c2.1 _ _ (by decide) (by decide) (by decide))) h
          · rw [if_neg (show ¬ V (2 * i + 1) = sumB (yF A.1 A.2.1 fe A.2.2) (ptT (yN A.1 A.2.1 fe A.2.2) (yF A.1 A.2.1 fe A.2.2) o (nI 0) (yN A.1 A.2.1 fe A.2.2)) 0 (yN A.1 A.2.1 fe A.2.2) from q4)]
            exact bad2 S2 d2 (fun u => q4 u.2)
        · rw [if_pos (nI_le (by omega) (by omega))]
          exact bad2 S1 d1 (fun u => q3 u.1)
      · rw [if_neg (show ¬ V (2 * i) = nI (yN A.1 A.2.1 fe A.2.2) from q2)]
        exact bad (fun u => q2 u.2)
    · rw [if_pos (nI_le (by omega) (by omega))]
      exact bad (fun u => q1 u.1)
theorem s_check {N : Nat} {ln : Nat → Nat} {S : HC} (h : PI N ln S) (a1 : Int32) : wpX7_check ln S 0 a1 fun v S => wpX8_check ln S 68 a1 fun w S => OK N ln v w S := by
  obtain ⟨⟨hs, hl, hN1, hN2⟩, -, ⟨hi1, hi2⟩, -, -, -, ⟨w, w1, w2, w3, w4⟩, -⟩ := id h
  have hb : LB 17 := Or.inr (Or.inr (Or.inl rfl))
  have hP : PI N ln (sI (sI S 0 9 0) 68 33 0) := h.wai (fun _ _ => rfl) (fun r k q => by rw [hI_ne (by omega), hI_ne (by omega)]) ⟨0, by omega, by rw [hI_row (by decide), hI_self]; rfl, hI_self _ _ _ _, fun j hj => absurd hj (by omega)⟩
  have hs1 : SH (sI S 0 9 0) := hs.sI _ _ _
  unfold wpX7_check BX7_check_21
  rw [lt_e, lt_e]
  have bad : ¬ (1 ≤ a1 ∧ a1 ≤ 30) → wpX8_check ln (sI S 0 9 0) 68 a1 fun w S => OK N ln (-1000000001) w S := fun q => by
    unfold wpX8_check
    rw [lt_e, lt_e, p_in, bI_f q, if_pos rfl]
    exact ⟨rfl, hP⟩
  by_cases c1 : a1 < 1
  · rw [if_pos c1]; exact bad (fun q => absurd c1 (Int32.not_lt.mpr q.1))
  rw [if_neg c1]
  by_cases c2 : a1 ≤ 30
  · rw [if_pos c2, lt_e, hI_ne (by decide), hi1]
    have cin : 1 ≤ a1 ∧ a1 ≤ 30 := ⟨Int32.not_lt.mp c1, c2⟩
    by_cases c0 : hI S 68 3 = 0
    · rw [if_pos c0]
      unfold wpX8_check
      try dsimp only
      rw [lt_e, lt_e, p_in, bI_t cin, if_neg (by decide), lt_e, hI_ne (by decide), hI_row (by decide), if_pos c0]
      exact ⟨rfl, hP⟩
    · obtain ⟨i1, ⟨n, hn⟩, hw⟩ : hI S 68 3 = 1 ∧ (∃ n, LR S 9 70 n) ∧ LWR ln N S 9 70 := by
        rcases hi2 with q | q
        · exact absurd q c0
        · exact q
      obtain ⟨h14, a2, a3, a4, a5, ⟨a6, a6'⟩, ⟨a7, y, hy, ey⟩, a8⟩ := hn
      rw [if_neg c0, sh0_3 hs1, dn_e, sh0_1 hs1, dn_e]
      obtain ⟨c, hc, rfl⟩ := nI_of2 (n := 30) (M := 30) (x := a1) rfl (fun q => c1 (Int32.lt_trans q (by decide))) c2
      refine p_become hs1 hl hb (Or.inr (Or.inl rfl)) (by omega) (fun S3 f3 => ?_)
      have hs3 : SH S3 := hs1.sm f3.sm
      have e3 : ∀ r k, ¬ (17 ≤ r ∧ r ≤ 23) → r ≠ 0 → hI S3 r k = hI S r k := fun r k u1 u2 => by rw [f3.1 r k (by omega), hI_row u2]
      have r3 : ∀ r k, r ≠ 24 → hR S3 r k = hR S r k := fun r k u => by rw [f3.2.2.2.1 r k u]; rfl
      have x1 : XA (sI S 0 9 0) 9 n (mf S 70) (hI S 70 3) (hI S 70 2) (hI S 70 0) := ⟨by rw [hI_row (by decide)]; exact a2, fun k hk j hj => by rw [← a4 k hk j hj]; exact hI_row (by omega), by rw [hI_row (by decide)]; exact a6, by rw [hI_row (by decide)]; exact a7, by rw [hI_row (by decide)]; exact a8⟩
      have x3 := x1.bc h14 f3
      obtain ⟨mm, mm1, mm2, mm3, mm4⟩ := hw
      have t2 : hI S3 17 11 = nI mm := by rw [f3.2.2.1 11 (by omega), hI_row (by decide)]; exact mm2
      have t3 : hI S3 70 4 = nI mm := by rw [e3 _ _ (by omega) (by decide)]; exact mm3
      have t4 : ∀ t, t < mm → ∃ q key c, hR S3 (17 + 7) t = some q ∧ LAW ln N S3 q 70 t key c := fun t ht => by
        obtain ⟨q, key, c, q1, q2⟩ := mm4 t ht
        exact ⟨q, key, c, by rw [f3.2.2.2.2 t (by omega)]; exact q1, q2.ag (fun r k u => e3 r k (by omega) (by omega)) (fun r k u => r3 r k (by omega)) (fun k _ => e3 _ _ (by omega) (by decide))⟩
      obtain ⟨o, ho⟩ := MWr.ex (ln := ln) (N := N) (S := S3) (b := 17) (a := 70) ⟨mm, mm1, t2, t3, t4⟩
      rw [sh0_1 hs3, dn_e, lt_e, e3 9 8 (by omega) (by decide), a7, ey, lt_e, show (9999 : Int32) - nI y = nI (9999 - y) from pk_sub (a := 9999) hy, lt_e]
      obtain ⟨sp, hsp, esp⟩ : ∃ sp, sp ≤ 30 ∧ (if nI (9999 - y) < nI c then nI (9999 - y) else nI c) = nI sp ∧ (if nI (9999 - y) < 0 then (0 : Int32) else if nI c < nI (9999 - y) then nI c else nI (9999 - y)) = nI sp := by
        rw [if_neg (nI_pos (n := 9999 - y) (by omega))]
        by_cases e : 9999 - y < c
        · exact ⟨9999 - y, by omega, by rw [if_pos (nI_lt e (by omega))], by rw [if_neg (nI_nlt (by omega) (by omega))]⟩
        · refine ⟨c, by omega, by rw [if_neg (nI_nlt (by omega) (by omega))], ?_⟩
          by_cases e2 : c < 9999 - y
          · rw [if_pos (nI_lt e2 (by omega))]
          · rw [if_neg (nI_nlt (by omega) (by omega)), show 9999 - y = c by omega]
      rw [esp.1, w2]
      refine ⟨sp + 1, p_xcheck (V := hI S 43) hs3 hl w1 hsp (fun j _ => e3 _ _ (by omega) (by decide)) mm1 t2 t3 t4 ho sp 0 _ (n, mf S 70, hI S 70 0) S3 (by omega) (CS.rf _) h14 a5 x3 (fun S4 c4 => ?_)⟩
      have hs4 : SH S4 := hs3.sm c4.sm
      have e4 : ∀ r k, ¬ (17 ≤ r ∧ r ≤ 28) → r ≠ 0 → hI S4 r k = hI S r k := fun r k u1 u2 => by rw [c4.1 r k u1, e3 r k (by omega) u2]
      unfold wpX8_check
      try dsimp only
      rw [lt_e, lt_e, e4 68 33 (by omega) (by decide), w3, p_in, bI_t cin, if_neg (by decide), lt_e, hI_ne (by decide), e4 68 3 (by omega) (by decide), if_neg c0]
      have hs5 : SH (sI S4 68 33 0) := hs4.sI _ _ _
      rw [sh68_0 hs5, dn_e, sh68_2 hs5, dn_e]
      refine p_copyAll (ln69 hl) (ln71 hl) (by decide) (fun S6 f6 => ?_)
      have hs6 := f6.sh hs5
      rw [sh68_1 hs6, dn_e, sh68_0 hs6, dn_e]
      refine p_copyAll (ln70 hl) (ln69 hl) (by decide) (fun S7 f7 => ?_)
      have hs7 := f7.sh hs6
      have m7 : ∀ k, k < 1461 → hI S7 69 k = hI S 70 k := fun k hk => by rw [f7.i (by omega) hk, f6.o (by decide), hI_row (by decide), e4 70 k (by omega) (by decide)]
      have e7 : ∀ r k, r ≠ 69 → r ≠ 71 → ¬ (17 ≤ r ∧ r ≤ 28) → r ≠ 0 → ¬ (r = 68 ∧ k = 33) → hI S7 r k = hI S r k := fun r k u1 u2 u3 u4 u5 => by rw [f7.o u1, f6.o u2, hI_ne u5, e4 r k u3 u4]
      have r7 : ∀ r k, hR S7 r k = hR S4 r k := fun r k => by rw [f7.2, f6.2]; rfl
      rw [sh68_0 hs7, dn_e, ln69 hl, al_l2 (by decide) (by decide), m7 2 (by decide), ey, lt_e, show (9999 : Int32) - nI y = nI (9999 - y) from pk_sub (a := 9999) hy, p_mwithin, esp.2, lt_e, show (2 : Int32) * nI sp = nI (2 * sp) from pk_mul 2 sp]
      obtain ⟨o1, ho1, hj⟩ := MWr.cp (S' := S7) (b' := 17) (a' := 69) ho (fun r k u => by rw [e7 r k (by omega) (by omega) (by omega) (by omega) (by omega), e3 r k (by omega) (by omega)]) (fun r k u => by rw [r7, c4.2.2 r k (by omega)]) (fun k hk => by rw [m7 k hk, e3 70 k (by omega) (by decide)]) (fun k _ => by rw [r7, c4.2.2 _ k (by omega)])
      have x7 : MA S7 n (mf S 70) (hI S 70 3) (hI S 70 2) (hI S 70 0) := ⟨by rw [m7 1 (by decide)]; exact a3, fun k hk j hj => m7 _ (by omega), m7 3 (by decide), m7 2 (by decide), m7 0 (by decide)⟩
      refine ⟨sp + 1, p_mcheck (V := hI S 43) (o := o1) hs7 hl w1 hsp (fun j hj => by rw [e7 90 j (by decide) (by decide) (by omega) (by decide) (by omega), w4 j hj]) ho1 sp 0 _ (n, mf S 70, hI S 70 0) S7 (by omega) (TM.rf _) h14 a5 x7 (fun S8 d8 => ?_)⟩
      refine p_copyAll (ln71 hl) (ln69 hl) (by decide) (fun S9 f9 => ?_)
      rw [ckF_jo hj]
      refine ⟨rfl, hP.sm ⟨fun r k u => ?_, fun r k u1 u2 u3 => ?_⟩⟩
      · by_cases e : r = 69
        · subst e
          have e0 : hI (sI (sI S 0 9 0) 68 33 0) 69 k = hI S 69 k := by rw [hI_row (by decide), hI_row (by decide)]
          rw [e0]
          by_cases e2 : k < 1461
          · rw [f9.i (by omega) e2, d8.1 71 k (by decide) (by decide) (by decide) (by decide), f7.o (by decide), f6.i (by omega) e2, hI_row (by decide), e4 69 k (by omega) (by decide)]
          · rw [f9.x (by omega), d8.2.1 k (by omega), f7.x (by omega), f6.o (by decide), hI_row (by decide), e4 69 k (by omega) (by decide)]
        · unfold sc at u
          rw [f9.o e, d8.1 r k e (by omega) (by omega) (by omega), f7.o e, f6.o (by omega)]
          by_cases e2 : r = 68 ∧ k = 33
          · rw [e2.1, e2.2, hI_self, hI_self]
          · rw [hI_ne e2, hI_ne e2, c4.1 r k (by omega), f3.1 r k (by omega)]
      · rw [f9.2, d8.2.2, r7, c4.2.2 r k u1, f3.2.2.2.1 r k (by omega)]
        rfl
  · rw [if_neg c2]; exact bad (fun q => c2 q.2)
-- 71.pspoon.lean.txt
/-! step spoon: both sides end, and nothing changes; the answers are the same where there is no sheet -/
theorem p_apartW {ln : Nat → Nat} {N : Nat} {S : HC} {n p i l : Nat} {f : Nat → Nat → Int32} {o : Option ((Nat → Int32) × Nat)} {post : Int32 → HC → Prop} (hs : SH S) (hl : LN ln) (hk : LK ln N S 1 n f o) (h14 : n ≤ 14) (hp : p < n) (hi : i < 4) (l1 : l ≤ 24) (l2 : hI S (45 + 2 * i) 1 = nI l) (h : ∀ z, post z S) : wpX4_apart ln S 25 (nI p) (45 + 2 * i) post := by
  have key : ∀ m ch x, ch + m = 8 → LX4_apart_5 ln post (m + 1) S 25 (nI p) (45 + 2 * i) x (nI ch) := by
    intro m
    induction m with
    | zero =>
      intro ch x hc
      have e : ch = 8 := by omega
      subst e
      rw [LX4_apart_5]
      dsimp only
      rw [if_pos (by decide)]
      exact h x
    | succ m ih =>
      intro ch x hc
      rw [LX4_apart_5]
      dsimp only
      unfold BX4_apart_42
      rw [if_neg (show ¬ (8 : Int32) ≤ nI ch from nI_ge (b := 8) (by omega) (by decide)), p_isNumber l2 l1 (rw_o hs hi).2 (rw_n hl hi) (by omega), lt_e, nI_1]
      by_cases q : ch < l ∧ ¬ hI S (46 + 2 * i) ch = -1000000005
      · rw [bI_t q, if_neg (by decide), p_shown (T := fun j => hI S 26 (14 * ch + j)) hs hl (Or.inl rfl) hk h14 (by omega) hp rfl, (rw_o hs hi).2, dn_e, rw_n hl hi, al_e (by omega) (by decide)]
        simp only [lt_e]
        exact ih (ch + 1) _ (by omega)
      · rw [bI_f q, if_pos rfl]
        exact ih (ch + 1) _ (by omega)
  exact ⟨9, key 8 0 0 (by omega)⟩
theorem p_xspoonW {ln : Nat → Nat} {N : Nat} {S : HC} {n i l : Nat} {f : Nat → Nat → Int32} {o : Option ((Nat → Int32) × Nat)} {x2 : Int32} {post : Int32 → HC → Prop} (hs : SH S) (hl : LN ln) (hk : LK ln N S 1 n f o) (h14 : n ≤ 14) (hi : i < 4) (l1 : l ≤ 24) (l2 : hI S (45 + 2 * i) 1 = nI l) (h : ∀ z, post z S) : ∀ m p x4 x5, p + m = n → LX7_spoon_58 ln post (m + 1) S 0 x2 (45 + 2 * i) x4 x5 (nI p) := by
  intro m
  induction m with
  | zero =>
    intro p x4 x5 hp
    rw [LX7_spoon_58]
    dsimp only
    rw [sh0_0 hs, dn_e, lt_e, hk.2.2.1, if_pos (nI_le (by omega) (by omega))]
    split
    · exact h _
    · exact h _
  | succ m ih =>
    intro p x4 x5 hp
    rw [LX7_spoon_58]
    dsimp only
    rw [sh0_0 hs, dn_e, lt_e, hk.2.2.1, if_neg (nI_ge (by omega) (by omega)), sh0_4 hs, dn_e]
    refine p_apartW hs hl hk h14 (by omega) hi l1 l2 (fun z => ?_)
    unfold BX7_spoon_96 BX7_spoon_104
    simp only [lt_e]
    rw [nI_1]
    split
    · exact ih (p + 1) _ _ (by omega)
    · split
      · exact ih (p + 1) _ _ (by omega)
      · exact ih (p + 1) _ _ (by omega)
theorem p_offByW {ln : Nat → Nat} {N : Nat} {S : HC} {b n p i l : Nat} {f : Nat → Nat → Int32} {o : Option ((Nat → Int32) × Nat)} {post : Int64 → HC → Prop} (hs : SH S) (hl : LN ln) (hk : MK ln N S b n f o) (h14 : n ≤ 14) (hp : p < n) (hi : i < 4) (l1 : l ≤ 24) (l3 : hI S 83 i = nI l) (h : ∀ z, post z S) : wpX8_offBy ln S 68 (nI i) (nI p) post := by
  have key : ∀ m k x, k + m = l → LX8_offBy_5 ln post (m + 1) S 68 (nI i) (nI p) x (nI k) := by
    intro m
    induction m with
    | zero =>
      intro k x hk2
      rw [LX8_offBy_5]
      dsimp only
      rw [sh68_25 hs, dn_e, ln83 hl, al_e hi (by decide), l3, if_pos (nI_le (by omega) (by omega))]
      exact h x
    | succ m ih =>
      intro k x hk2
      have nx : ∀ x6 t0 t1, BX8_offBy_51 ln post (LX8_offBy_5 ln post (m + 1)) S 68 (nI i) (nI p) x (nI k) x6 t0 t1 := fun x6 t0 t1 => by
        unfold BX8_offBy_51 BX8_offBy_82
        simp only [lt_e]
        rw [nI_1]
        split
        · exact ih (k + 1) _ (by omega)
        · split
          · exact ih (k + 1) _ (by omega)
          · exact ih (k + 1) _ (by omega)
      rw [LX8_offBy_5]
      dsimp only
      rw [sh68_25 hs, dn_e, ln83 hl, al_e hi (by decide), l3, if_neg (nI_ge (by omega) (by omega)), sh68_26 hs, dn_e, lt_e, lt_e, show (24 : Int32) * nI i = nI (24 * i) from pk_mul 24 i, nI_add, ln84 hl, al_e (by omega) (by decide), lt_e]
      by_cases q : 8 ≤ k
      · rw [if_pos (show (8 : Int32) ≤ nI k from nI_le (a := 8) q (by omega))]
        exact nx _ _ _
      · rw [if_neg (show ¬ (8 : Int32) ≤ nI k from nI_ge (b := 8) (by omega) (by decide)), p_borne (T := fun j => hI S 72 (8 * j + k)) hs hl hk h14 (by omega) hp rfl]
        exact nx _ _ _
  exact ⟨l + 1, key l 0 0 (by omega)⟩
theorem p_mspoonW {ln : Nat → Nat} {N : Nat} {S : HC} {b n i l : Nat} {f : Nat → Nat → Int32} {o : Option ((Nat → Int32) × Nat)} {x2 : Int32} {post : Int32 → HC → Prop} (hs : SH S) (hl : LN ln) (hk : MK ln N S b n f o) (h14 : n ≤ 14) (hi : i < 4) (l1 : l ≤ 24) (l3 : hI S 83 i = nI l) (h : ∀ z, post z S) : ∀ m p x3 x4, p + m = n → LX8_spoon_43 ln post (m + 1) S 68 (nI i) x2 x3 x4 (nI p) := by
  intro m
  induction m with
  | zero =>
    intro p x3 x4 hp
    rw [LX8_spoon_43]
    dsimp only
    rw [sh68_0 hs, dn_e, ln69 hl, al_l1 (by decide) (by decide), hk.1, if_pos (nI_le (by omega) (by omega)), lt_e]
    split
    · split
      · exact h _
      · exact h _
    · exact h _
  | succ m ih =>
    intro p x3 x4 hp
    rw [LX8_spoon_43]
    dsimp only
    rw [sh68_0 hs, dn_e, ln69 hl, al_l1 (by decide) (by decide), hk.1, if_neg (nI_ge (by omega) (by omega))]
    refine p_offByW hs hl hk h14 (by omega) hi l1 l3 (fun z => ?_)
    unfold BX8_spoon_75 BX8_spoon_82
    simp only [lt_e]
    rw [nI_1]
    split
    · exact ih (p + 1) _ _ (by omega)
    · split
      · exact ih (p + 1) _ _ (by omega)
      · exact ih (p + 1) _ _ (by omega)
theorem s_spoonW {N : Nat} {ln : Nat → Nat} {S : HC} (h : PI N ln S) (a1 a2 : Int32) : wpX7_spoon ln S 0 a1 a2 fun v S1 => wpX8_spoon ln S1 68 a1 a2 fun w S2 => PI N ln S2 ∧ ((∀ i, i < 4 → hI S 82 i = -1) → v = w) := by
  obtain ⟨⟨hs, hl, -, -⟩, ⟨⟨n, hn⟩, m, m1, m2, m3, m4⟩, -, -, hr, -⟩ := id h
  have h14 := hn.1
  have hv := hn.2.2.2.2.1
  have no : ¬ ((0 ≤ a1 ∧ a1 < 4) ∧ 0 ≤ a2 ∧ a2 ≤ 1) → wpX8_spoon ln S 68 a1 a2 fun w S2 => PI N ln S2 ∧ ((∀ i, i < 4 → hI S 82 i = -1) → -1000000001 = w) := fun u => by
    unfold wpX8_spoon BX8_spoon_16
    rw [p_mSheet, shE]
    by_cases c : 0 ≤ a1 ∧ a1 < 4
    · rw [bI_t c, if_neg (by decide), p_in, bI_f (fun q => u ⟨c, q⟩), if_pos rfl]
      exact ⟨h, fun _ => rfl⟩
    · rw [bI_f c, if_pos rfl]
      exact ⟨h, fun _ => rfl⟩
  unfold wpX7_spoon BX7_spoon_16 wpX4_workOutAll
  rw [p_isSheet]
  by_cases c : 0 ≤ a1 ∧ a1 < 4
  · rw [bI_t c, if_neg (by decide)]
    by_cases c3 : a2 < 0
    · rw [if_pos c3]; exact no (fun q => absurd c3 (Int32.not_lt.mpr q.2.1))
    rw [if_neg c3]
    by_cases c4 : a2 ≤ 1
    · rw [if_pos c4]
      obtain ⟨i, hi, rfl⟩ := ge_of (n := 4) (by decide) c
      obtain ⟨⟨b1, b2⟩, ⟨l, l1, l2, l3⟩, b3⟩ := hr i hi
      rw [sh0_6 hs, dn_e, ln41 hl, al_e hi (by decide), (rw_o hs hi).1, dn_e, p_isMissing, b1]
      by_cases c1 : hI S 82 i = -1
      · rw [bI_t c1, if_neg (by decide)]
        unfold wpX8_spoon
        try dsimp only
        rw [p_mSheet, shE, bI_t c, if_neg (by decide), p_in, bI_t ⟨Int32.not_lt.mp c3, c4⟩, if_neg (by decide), sh68_24 hs, dn_e, ln82 hl, al_e hi (by decide), c1, if_neg (by decide)]
        exact ⟨h, fun _ => rfl⟩
      rw [bI_f c1, if_pos rfl]
      have p0 : 0 ≤ hI S 82 i := by
        rcases b2 with e | e | e
        · exact absurd e c1
        · rw [e]; decide
        · rw [e]; decide
      rw [sh0_4 hs, dn_e, sh0_0 hs, dn_e]
      refine p_lookAt (n := n) (m := m) (f := mf S 69) hs hl (Or.inl rfl) hn.2.1 hn.2.2.2.1 h14 hn.2.2.1 (fun _ _ _ _ => rfl) m1 m2 m3 m4 (fun S1 o k1 k2 e1 e2 => ?_)
      have s1 := look_sm e1 e2
      have hs1 := hs.sm s1
      refine p_allOut hs1 hl (Or.inl rfl) k1 hv h14 (fun S2 w2 => ?_)
      have s2 := s1.tr (wo_sm w2.1 w2.2.2)
      have hs2 := hs.sm s2
      have k3 := k1.ag (Or.inl rfl) w2.1 w2.2.2
      have k2' := k2.wo w2.1 w2.2.2
      have l2' : hI S2 (45 + 2 * i) 1 = nI l := by rw [s2.1 _ _ (by unfold sc; omega)]; exact l2
      refine ⟨n + 1, p_xspoonW hs2 hl k3 h14 hi l1 l2' (fun z => ?_) n 0 _ _ (by omega)⟩
      unfold wpX8_spoon
      try dsimp only
      rw [p_mSheet, shE, bI_t c, if_neg (by decide), p_in, bI_t ⟨Int32.not_lt.mp c3, c4⟩, if_neg (by decide), sh68_24 hs2, dn_e, ln82 hl, al_e hi (by decide), s2.1 82 i (by unfold sc; omega), if_pos p0]
      refine p_worksAll hs2 hl k2' hv h14 (fun S3 w3 => ?_)
      have s3 := s2.tr w3.1.sm
      exact ⟨n + 1, p_mspoonW (w3.1.sh hs2) hl (k2'.ag w3.1) h14 hi l1 (by rw [s3.1 83 i (by unfold sc; omega)]; exact l3) (fun _ => ⟨h.sm s3, fun q => absurd (q i hi) c1⟩) n 0 _ _ (by omega)⟩
    · rw [if_neg c4]; exact no (fun q => c4 q.2.2)
  · rw [bI_f c, if_pos rfl]; exact no (fun q => c q.1)
