/-! texts worked out: the same number on both sides -/
def lf3 (a b e c : Int32) : Int32 := if c = 10000 then a else if c = 10001 then b else if c = 10002 then e else c
def tw (c l r : Int32) : Int32 := if c = -8 then l * r else if c = -7 then l - r else if c = -6 then l + r else if c = -5 then (if l ≤ r then 0 else 1) else if c = -4 then (if l = r then 1 else 0) else if c = -3 then (if r ≤ l then 0 else 1) else if c = -2 then (if l = 0 then 0 else if r = 0 then 0 else 1) else if c = -1 then (if l = 0 then (if r = 0 then 0 else 1) else 1) else if r = 0 then 0 else l / r
theorem p_leaf {ln : Nat → Nat} {S : HC} {a b e c : Int32} {post : Int32 → HC → Prop} : wpX1_leaf ln S c a b e post = post (lf3 a b e c) S := by
  unfold wpX1_leaf lf3
  repeat' split
  all_goals rfl
theorem p_two {ln : Nat → Nat} {S : HC} {c l r : Int32} {post : Int32 → HC → Prop} : wpX8_two ln S c l r post = post (tw c l r) S := by
  unfold wpX8_two tw BX8_two_56 BX8_two_74
  simp only [lt_e]
  repeat' split
  all_goals first | rfl | (rw [ne_e (by assumption)])
theorem tr1 {x : Int32} (h : 0 ≤ trS x) : trS x = x := by
  unfold trS at *
  repeat' split at h
  all_goals first | exact absurd h (by decide) | skip
  simp_all
theorem tr2 {x : Int32} (hx : 0 ≤ x) (h : trS x = -10) : x = 20033 := by
  unfold trS at h
  repeat' split at h
  all_goals first | exact absurd h (by decide) | assumption | skip
  rw [h] at hx
  exact absurd hx (by decide)
theorem tr3 {ln : Nat → Nat} {x : Int32} (hx : 0 ≤ x) (h : ¬ 0 ≤ trS x) (h2 : ¬ trS x = -10) : ¬ x = 20033 ∧ 20000 ≤ x ∧ ∀ (S : HC) (l r : Int32) (post : Int32 → HC → Prop), wpX1_work ln S (x - 20000) l r post = post (tw (trS x) l r) S := by
  by_cases c1 : x = 20124
  · subst c1
    refine ⟨by decide, by decide, fun S l r post => ?_⟩
    rw [show (20124 : Int32) - 20000 = 124 by decide, show trS 20124 = -1 by decide]
    unfold wpX1_work tw BX1_work_84
    simp
    repeat' split
    all_goals rfl
  by_cases c2 : x = 20038
  · subst c2
    refine ⟨by decide, by decide, fun S l r post => ?_⟩
    rw [show (20038 : Int32) - 20000 = 38 by decide, show trS 20038 = -2 by decide]
    unfold wpX1_work tw BX1_work_102
    simp
    repeat' split
    all_goals rfl
  by_cases c3 : x = 20060
  · subst c3
    refine ⟨by decide, by decide, fun S l r post => ?_⟩
    rw [show (20060 : Int32) - 20000 = 60 by decide, show trS 20060 = -3 by decide]
    unfold wpX1_work tw
    simp
    repeat' split
    all_goals rfl
  by_cases c4 : x = 20061
  · subst c4
    refine ⟨by decide, by decide, fun S l r post => ?_⟩
    rw [show (20061 : Int32) - 20000 = 61 by decide, show trS 20061 = -4 by decide]
    unfold wpX1_work tw
    simp
    repeat' split
    all_goals rfl
  by_cases c5 : x = 20062
  · subst c5
    refine ⟨by decide, by decide, fun S l r post => ?_⟩
    rw [show (20062 : Int32) - 20000 = 62 by decide, show trS 20062 = -5 by decide]
    unfold wpX1_work tw
    simp
    repeat' split
    all_goals rfl
  by_cases c6 : x = 20043
  · subst c6
    refine ⟨by decide, by decide, fun S l r post => ?_⟩
    rw [show (20043 : Int32) - 20000 = 43 by decide, show trS 20043 = -6 by decide]
    unfold wpX1_work tw
    simp [lt_e]
  by_cases c7 : x = 20045
  · subst c7
    refine ⟨by decide, by decide, fun S l r post => ?_⟩
    rw [show (20045 : Int32) - 20000 = 45 by decide, show trS 20045 = -7 by decide]
    unfold wpX1_work tw
    simp [lt_e]
  by_cases c8 : x = 20042
  · subst c8
    refine ⟨by decide, by decide, fun S l r post => ?_⟩
    rw [show (20042 : Int32) - 20000 = 42 by decide, show trS 20042 = -8 by decide]
    unfold wpX1_work tw
    simp [lt_e]
  by_cases c9 : x = 20047
  · subst c9
    refine ⟨by decide, by decide, fun S l r post => ?_⟩
    rw [show (20047 : Int32) - 20000 = 47 by decide, show trS 20047 = -9 by decide]
    unfold wpX1_work tw
    simp [lt_e]
    split
    · rfl
    · rw [ne_e (by assumption)]
  by_cases c10 : x = 20033
  · subst c10
    exact absurd (by decide) h2
  · exfalso
    apply h
    unfold trS
    rw [if_neg c1, if_neg c2, if_neg c3, if_neg c4, if_neg c5, if_neg c6, if_neg c7, if_neg c8, if_neg c9, if_neg c10]
    exact hx
theorem wfS_c {d d2 : Nat} {c : Int32} (h : wfS d c = some d2) : (0 ≤ c ∧ c ≤ 10002 ∧ d2 = d + 1) ∨ (¬ 0 ≤ c ∧ c = -10 ∧ 1 ≤ d ∧ d2 = d) ∨ (¬ 0 ≤ c ∧ ¬ c = -10 ∧ 2 ≤ d ∧ d2 = d - 1) := by
  unfold wfS at h
  by_cases e1 : 0 ≤ c
  · rw [if_pos e1] at h
    by_cases e2 : c ≤ 10002
    · rw [if_pos e2] at h
      injection h with h
      exact Or.inl ⟨e1, e2, h.symm⟩
    · rw [if_neg e2] at h; exact absurd h (by simp)
  rw [if_neg e1] at h
  by_cases e2 : c = -10
  · rw [if_pos e2] at h
    by_cases e3 : 1 ≤ d
    · rw [if_pos e3] at h
      injection h with h
      exact Or.inr (Or.inl ⟨e1, e2, e3, h.symm⟩)
    · rw [if_neg e3] at h; exact absurd h (by simp)
  rw [if_neg e2] at h
  by_cases e4 : -9 ≤ c
  · rw [if_pos e4] at h
    by_cases e3 : 2 ≤ d
    · rw [if_pos e3] at h
      injection h with h
      exact Or.inr (Or.inr ⟨e1, e2, e3, h.symm⟩)
    · rw [if_neg e3] at h; exact absurd h (by simp)
  · rw [if_neg e4] at h; exact absurd h (by simp)
theorem wfC_s {f : Nat → Int32} {n i d d' : Nat} (h : wfC f (n + 1) i d = some d') : ∃ d2, wfS d (f i) = some d2 ∧ wfC f n (i + 1) d2 = some d' := by
  rw [wfC] at h
  cases e : wfS d (f i) with
  | none => rw [e] at h; exact absurd h (by simp)
  | some d2 => rw [e] at h; exact ⟨d2, rfl, h⟩
def upS (st : Nat → Int32) (d : Nat) (v : Int32) : Nat → Int32 := fun j => if j = d then v else st j
def evF (a b e : Int32) (cd : Nat → Int32) : Nat → Nat → (Nat → Int32) → Nat → (Nat → Int32)
  | 0, _, st, _ => st
  | n + 1, i, st, d => if 0 ≤ cd i then evF a b e cd n (i + 1) (upS st d (lf3 a b e (cd i))) (d + 1) else if cd i = -10 then evF a b e cd n (i + 1) (upS st (d - 1) (if st (d - 1) = 0 then 1 else 0)) d else evF a b e cd n (i + 1) (upS st (d - 2) (tw (cd i) (st (d - 2)) (st (d - 1)))) (d - 1)
theorem evF_ag {a b e : Int32} {cd : Nat → Int32} : ∀ (n i d d' : Nat) (st st' : Nat → Int32), wfC cd n i d = some d' → (∀ j, j < d → st j = st' j) → ∀ j, j < d' → evF a b e cd n i st d j = evF a b e cd n i st' d j := by
  intro n
  induction n with
  | zero =>
    intro i d d' st st' hw hs j hj
    rw [wfC] at hw
    injection hw with hw
    rw [evF, evF]
    exact hs j (by omega)
  | succ n ih =>
    intro i d d' st st' hw hs j hj
    obtain ⟨d2, w1, w2⟩ := wfC_s hw
    rw [evF, evF]
    rcases wfS_c w1 with ⟨c1, -, rfl⟩ | ⟨c1, c2, c3, rfl⟩ | ⟨c1, c2, c3, rfl⟩
    · rw [if_pos c1, if_pos c1]
      refine ih (i + 1) _ d' _ _ w2 (fun j hj => ?_) j hj
      unfold upS
      by_cases q : j = d
      · rw [if_pos q, if_pos q]
      · rw [if_neg q, if_neg q]; exact hs j (by omega)
    · rw [if_neg c1, if_neg c1, if_pos c2, if_pos c2]
      refine ih (i + 1) _ d' _ _ w2 (fun j hj => ?_) j hj
      unfold upS
      rw [hs (d2 - 1) (by omega)]
      by_cases q : j = d2 - 1
      · rw [if_pos q, if_pos q]
      · rw [if_neg q, if_neg q]; exact hs j hj
    · rw [if_neg c1, if_neg c1, if_neg c2, if_neg c2]
      refine ih (i + 1) _ d' _ _ w2 (fun j hj => ?_) j hj
      unfold upS
      rw [hs (d - 1) (by omega), hs (d - 2) (by omega)]
      by_cases q : j = d - 2
      · rw [if_pos q, if_pos q]
      · rw [if_neg q, if_neg q]; exact hs j (by omega)
def SX (r : Nat) (S S' : HC) (st : Nat → Int32) : Prop := (∀ j, hI S' r j = st j) ∧ (∀ q k, q ≠ r → hI S' q k = hI S q k) ∧ ∀ q k, hR S' q k = hR S q k
theorem SX.up {r : Nat} {S S' : HC} {st : Nat → Int32} (h : SX r S S' st) (d : Nat) (v : Int32) : SX r S (sI S' r d v) (upS st d v) := by
  refine ⟨fun j => ?_, fun q k u => by rw [hI_row u]; exact h.2.1 q k u, fun q k => h.2.2 q k⟩
  unfold upS
  by_cases e : j = d
  · rw [if_pos e, e, hI_self]
  · rw [if_neg e, hI_ne (by omega)]; exact h.1 j
theorem SX.sh {r : Nat} {S S' : HC} {st : Nat → Int32} (h : SX r S S' st) (hs : SH S) : SH S' := hs.of (fun _ _ => h.2.2 _ _)
theorem dsub1 {d : Nat} (h : 1 ≤ d) : nI d - 1 = nI (d - 1) := pk_sub (b := 1) h
theorem p_give {ln : Nat → Nat} {N : Nat} {S : HC} {q am t key c k : Nat} {a b e : Int32} {post : Int32 → HC → Prop} (hk : ln k = 96) (hk2 : k < 91) (hw : LAW ln N S q am t key c) (h : ∀ S', SX k S S' (evF a b e (fun i => hI S am (117 + 96 * t + i)) c 0 (hI S k) 0) → post (evF a b e (fun i => hI S am (117 + 96 * t + i)) c 0 (hI S k) 0 0) S') : wpX1_give ln S q a b e k post := by
  obtain ⟨⟨q1, q2⟩, q3, ⟨q4, q5, q6⟩, -, -, -, q9, q10, q11⟩ := hw
  generalize hcd : (fun i => hI S am (117 + 96 * t + i)) = cd at *
  have hcd' : ∀ i, hI S am (117 + 96 * t + i) = cd i := fun i => by rw [← hcd]
  have key : ∀ n i d st S', i + n = c → d ≤ i → (∃ d', wfC cd n i d = some d') → SX k S S' st → (∀ S', SX k S S' (evF a b e cd n i st d) → post (evF a b e cd n i st d 0) S') → LX1_give_6 ln post (n + 1) S' q a b e k (nI d) (nI i) := by
    intro n
    induction n with
    | zero =>
      intro i d st S' hi hd hf hx hp
      rw [LX1_give_6]
      dsimp only
      rw [hx.2.2, q3, dn_e, lt_e, q4, if_pos (nI_le (by omega) (by omega)), hk, al_l0 (by decide) (by decide), hx.1]
      rw [evF] at hp
      exact hp S' hx
    | succ n ih =>
      intro i d st S' hi hd ⟨d', hf⟩ hx hp
      obtain ⟨d2, w1, w2⟩ := wfC_s hf
      have et : trS (hI S (q - 1) i) = cd i := by rw [← q9 i (by omega), hcd']
      have e0 := (q11 i (by omega)).1
      rw [evF] at hp
      rw [LX1_give_6]
      dsimp only
      unfold BX1_give_95 BX1_give_136
      rw [hx.2.2, q3, dn_e, lt_e, q4, if_neg (nI_ge (by omega) (by omega)), dn_e, q4, al_e (by omega) (by omega), hx.2.1 (q - 1) i (by omega)]
      rcases wfS_c w1 with ⟨c1, c2, rfl⟩ | ⟨c1, c2, c3, rfl⟩ | ⟨c1, c2, c3, rfl⟩
      · rw [← et] at c1 c2
        have ex := tr1 c1
        have ex2 : hI S (q - 1) i = cd i := by rw [← ex, et]
        rw [ex] at c2
        rw [ex2, if_neg (show ¬ (20000 : Int32) ≤ cd i by rw [← ex2]; intro u; exact absurd (Int32.le_trans u c2) (by decide)), lt_e, hk, if_neg (nI_ge (by omega) (by decide)), p_leaf, as_e (by omega) (by decide), lt_e, lt_e, nI_1, nI_1]
        rw [et] at c1
        rw [if_pos c1] at hp
        exact ih (i + 1) (d + 1) _ _ (by omega) (by omega) ⟨d', w2⟩ (hx.up d _) hp
      · rw [← et] at c2
        have ex := tr2 e0 c2
        rw [et] at c2
        rw [if_neg c1, if_pos c2] at hp
        rw [ex, if_pos (by decide), if_pos rfl, if_neg (show ¬ nI d2 < 1 from nI_nlt (b := 1) c3 (by omega))]
        simp only [lt_e]
        rw [dsub1 c3, hk, al_e (by omega) (by decide), hx.1, nI_1]
        by_cases z : st (d2 - 1) = 0
        · rw [if_pos z] at hp
          rw [if_pos z, as_e (by omega) (by decide)]
          exact ih (i + 1) d2 _ _ (by omega) (by omega) ⟨d', w2⟩ (hx.up _ _) hp
        · rw [if_neg z] at hp
          rw [if_neg z, as_e (by omega) (by decide)]
          exact ih (i + 1) d2 _ _ (by omega) (by omega) ⟨d', w2⟩ (hx.up _ _) hp
      · rw [if_neg c1, if_neg c2] at hp
        obtain ⟨x1, x2, x3⟩ := tr3 (ln := ln) e0 (by rw [et]; exact c1) (by rw [et]; exact c2)
        rw [if_pos x2, if_neg x1, if_neg (show ¬ nI d < 2 from nI_nlt (b := 2) c3 (by omega))]
        simp only [lt_e]
        rw [addm1, dsub1 (by omega), dsub1 (show 1 ≤ d - 1 by omega), show d - 1 - 1 = d - 2 by omega, hk, al_e (by omega) (by decide), al_e (by omega) (by decide), x3, et, hx.1, hx.1, as_e (by omega) (by decide), nI_1]
        exact ih (i + 1) (d - 1) _ _ (by omega) (by omega) ⟨d', w2⟩ (hx.up _ _) hp
  exact ⟨c + 1, key c 0 0 (hI S k) S (by omega) (Nat.le_refl _) ⟨1, q10⟩ ⟨fun _ => rfl, fun _ _ _ => rfl, fun _ _ => rfl⟩ h⟩
