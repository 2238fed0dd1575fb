/-! steps: the image kept, and come back to -/
/-- the land b1 became b2 -/
def BC (S S' : HC) (b1 b2 : Nat) : Prop := (∀ r k, ¬ (b1 ≤ r ∧ r ≤ b1 + 6) → hI S' r k = hI S r k) ∧ (∀ k j, k < 6 → j < 14 → hI S' (b1 + 1 + k) j = hI S (b2 + 1 + k) j) ∧ (∀ f, f = 6 ∨ f = 7 ∨ f = 8 ∨ f = 9 ∨ f = 11 → hI S' b1 f = hI S b2 f) ∧ (∀ r k, r ≠ b1 + 7 → hR S' r k = hR S r k) ∧ ∀ j, j < 14 → hR S' (b1 + 7) j = hR S (b2 + 7) j
theorem RT_lw : RT.all (fun q => !(q.1 == 8) && !(q.1 == 16) && !(q.1 == 24) && !(q.1 == 36)) = true := by decide
theorem SH.lw {S S' : HC} (h : SH S) {b : Nat} (hb : LB b) (e : ∀ r k, r ≠ b + 7 → hR S' r k = hR S r k) : SH S' := h.of (fun q hq => by
  have := List.all_eq_true.mp RT_lw q hq
  simp at this
  refine e _ _ ?_
  rcases hb with rfl | rfl | rfl | rfl <;> omega)
def B1 (S S' : HC) (b1 b2 t : Nat) : Prop := (∀ r k, ¬ (b1 + 1 ≤ r ∧ r ≤ b1 + 6) → hI S' r k = hI S r k) ∧ (∀ k j, k < 6 → hI S' (b1 + 1 + k) j = if j < t then hI S (b2 + 1 + k) j else hI S (b1 + 1 + k) j) ∧ ∀ r k, hR S' r k = hR S r k
def B2 (S S' : HC) (b1 b2 t : Nat) : Prop := (∀ r k, hI S' r k = hI S r k) ∧ (∀ r k, r ≠ b1 + 7 → hR S' r k = hR S r k) ∧ ∀ j, hR S' (b1 + 7) j = if j < t then hR S (b2 + 7) j else hR S (b1 + 7) j
theorem B1.step {S S' : HC} {b1 b2 t : Nat} {v : Nat → Int32} (h : B1 S S' b1 b2 t) (hv : ∀ k, k < 6 → v k = hI S (b2 + 1 + k) t) : B1 S (sI (sI (sI (sI (sI (sI S' (b1 + 1 + 0) t (v 0)) (b1 + 1 + 1) t (v 1)) (b1 + 1 + 2) t (v 2)) (b1 + 1 + 3) t (v 3)) (b1 + 1 + 4) t (v 4)) (b1 + 1 + 5) t (v 5)) b1 b2 (t + 1) := by
  refine ⟨fun r k q => ?_, fun k j hk => ?_, fun r k => h.2.2 r k⟩
  · rw [hI_row (by omega), hI_row (by omega), hI_row (by omega), hI_row (by omega), hI_row (by omega), hI_row (by omega)]
    exact h.1 r k q
  · by_cases e : j = t
    · subst e
      rw [if_pos (by omega), ← hv k hk]
      rcases (show k = 0 ∨ k = 1 ∨ k = 2 ∨ k = 3 ∨ k = 4 ∨ k = 5 by omega) with rfl | rfl | rfl | rfl | rfl | rfl
      · rw [hI_row (by omega), hI_row (by omega), hI_row (by omega), hI_row (by omega), hI_row (by omega), hI_self]
      · rw [hI_row (by omega), hI_row (by omega), hI_row (by omega), hI_row (by omega), hI_self]
      · rw [hI_row (by omega), hI_row (by omega), hI_row (by omega), hI_self]
      · rw [hI_row (by omega), hI_row (by omega), hI_self]
      · rw [hI_row (by omega), hI_self]
      · rw [hI_self]
    · rw [hI_ne (by omega), hI_ne (by omega), hI_ne (by omega), hI_ne (by omega), hI_ne (by omega), hI_ne (by omega), h.2.1 k j hk]
      by_cases e2 : j < t
      · rw [if_pos e2, if_pos (by omega)]
      · rw [if_neg e2, if_neg (by omega)]
theorem p_become {ln : Nat → Nat} {S : HC} {b1 b2 : Nat} {post : HC → Prop} (hs : SH S) (hl : LN ln) (h1 : LB b1) (h2 : LB b2) (hne : b1 + 8 ≤ b2 ∨ b2 + 8 ≤ b1) (h : ∀ S', BC S S' b1 b2 → post S') : wpX0_become ln S b1 b2 post := by
  have key2 : ∀ S0, SH S0 → (∀ S', B2 S0 S' b1 b2 14 → post (sI S' b1 11 (hI S0 b2 11))) → ∀ m t S', t + m = 14 → B2 S0 S' b1 b2 t → LX0_become_120 ln post (m + 1) S' b1 b2 (nI t) := by
    intro S0 hs0 hp m
    induction m with
    | zero =>
      intro t S' ht hB
      have e : t = 14 := by omega
      subst e
      rw [LX0_become_120]
      dsimp only
      rw [if_pos (by decide)]
      simp only [lt_e]
      rw [hB.1]
      exact hp S' hB
    | succ m ih =>
      intro t S' ht hB
      have hs' : SH S' := hs0.lw h1 hB.2.1
      rw [LX0_become_120]
      dsimp only
      rw [if_neg (show ¬ (14 : Int32) ≤ nI t from nI_ge (b := 14) (by omega) (by decide)), lb_l hs' h1, dn_e, lb_l hs' h2, dn_e, lb_n7 hl h2, al_e (by omega) (by decide), lb_n7 hl h1, as_e (by omega) (by decide), lt_e, nI_1]
      refine ih (t + 1) _ (by omega) ⟨fun r k => hB.1 r k, fun r k q => ?_, fun j => ?_⟩
      · rw [hR_sR, if_neg (fun u => q u.1)]; exact hB.2.1 r k q
      · rw [hR_sR]
        by_cases e : j = t
        · subst e
          rw [if_pos ⟨rfl, rfl⟩, if_pos (by omega), hB.2.1 _ _ (by omega)]
        · rw [if_neg (fun u => e u.2), hB.2.2 j]
          by_cases e2 : j < t
          · rw [if_pos e2, if_pos (by omega)]
          · rw [if_neg e2, if_neg (by omega)]
  have key1 : ∀ m t S', t + m = 14 → B1 S S' b1 b2 t → LX0_become_2 ln post (m + 1) S' b1 b2 (nI t) := by
    intro m
    induction m with
    | zero =>
      intro t S' ht hB
      have e : t = 14 := by omega
      subst e
      rw [LX0_become_2]
      dsimp only
      rw [if_pos (by decide)]
      simp only [lt_e]
      have o : ∀ k, hI S' b2 k = hI S b2 k := fun k => hB.1 _ _ (by omega)
      rw [hI_row (show b2 ≠ b1 by omega), hI_row (show b2 ≠ b1 by omega), hI_row (show b2 ≠ b1 by omega), hI_row (show b2 ≠ b1 by omega), hI_row (show b2 ≠ b1 by omega), hI_row (show b2 ≠ b1 by omega), o, o, o, o]
      have hs' : SH S' := hs.of (fun _ _ => hB.2.2 _ _)
      refine ⟨15, key2 _ ((((hs'.sI _ _ _).sI _ _ _).sI _ _ _).sI _ _ _) (fun S3 h3 => h _ ⟨fun r k q => ?_, fun k j hk hj => ?_, fun f hf => ?_, fun r k q => ?_, fun j hj => ?_⟩) 14 0 _ (by omega) ⟨fun _ _ => rfl, fun _ _ _ => rfl, fun j => by rw [if_neg (by omega)]⟩⟩
      · rw [hI_row (by omega), h3.1, hI_row (by omega), hI_row (by omega), hI_row (by omega), hI_row (by omega)]
        exact hB.1 r k (by omega)
      · rw [hI_row (by omega), h3.1, hI_row (by omega), hI_row (by omega), hI_row (by omega), hI_row (by omega), hB.2.1 k j hk, if_pos hj]
      · rcases hf with rfl | rfl | rfl | rfl | rfl
        · rw [hI_ne (by omega), h3.1, hI_ne (by omega), hI_ne (by omega), hI_ne (by omega), hI_self]
        · rw [hI_ne (by omega), h3.1, hI_ne (by omega), hI_ne (by omega), hI_self]
        · rw [hI_ne (by omega), h3.1, hI_ne (by omega), hI_self]
        · rw [hI_ne (by omega), h3.1, hI_self]
        · rw [hI_self, hI_row (by omega), hI_row (by omega), hI_row (by omega), hI_row (by omega)]; exact o 11
      · rw [hR_sI, h3.2.1 r k q, hR_sI, hR_sI, hR_sI, hR_sI]; exact hB.2.2 r k
      · rw [hR_sI, h3.2.2 j, if_pos hj, hR_sI, hR_sI, hR_sI, hR_sI]; exact hB.2.2 _ _
    | succ m ih =>
      intro t S' ht hB
      have hs' : SH S' := hs.of (fun _ _ => hB.2.2 _ _)
      rw [LX0_become_2]
      dsimp only
      rw [if_neg (show ¬ (14 : Int32) ≤ nI t from nI_ge (b := 14) (by omega) (by decide))]
      simp only [lt_e, hR_sI, lb_r hs' h1 (i := 0) (by decide), lb_r hs' h1 (i := 1) (by decide), lb_r hs' h1 (i := 2) (by decide), lb_r hs' h1 (i := 3) (by decide), lb_r hs' h1 (i := 4) (by decide), lb_r hs' h1 (i := 5) (by decide), lb_r hs' h2 (i := 0) (by decide), lb_r hs' h2 (i := 1) (by decide), lb_r hs' h2 (i := 2) (by decide), lb_r hs' h2 (i := 3) (by decide), lb_r hs' h2 (i := 4) (by decide), lb_r hs' h2 (i := 5) (by decide), dn_e, lb_n hl h1 (i := 0) (by decide), lb_n hl h1 (i := 1) (by decide), lb_n hl h1 (i := 2) (by decide), lb_n hl h1 (i := 3) (by decide), lb_n hl h1 (i := 4) (by decide), lb_n hl h1 (i := 5) (by decide), lb_n hl h2 (i := 0) (by decide), lb_n hl h2 (i := 1) (by decide), lb_n hl h2 (i := 2) (by decide), lb_n hl h2 (i := 3) (by decide), lb_n hl h2 (i := 4) (by decide), lb_n hl h2 (i := 5) (by decide), al_e (i := t) (n := 14) (show t < 14 by omega) (by decide), as_e (i := t) (n := 14) (show t < 14 by omega) (by decide)]
      rw [nI_1, hI_row (show b2 + 1 + 5 ≠ b1 + 1 + 4 by omega), hI_row (show b2 + 1 + 5 ≠ b1 + 1 + 3 by omega), hI_row (show b2 + 1 + 5 ≠ b1 + 1 + 2 by omega), hI_row (show b2 + 1 + 5 ≠ b1 + 1 + 1 by omega), hI_row (show b2 + 1 + 5 ≠ b1 + 1 + 0 by omega), hI_row (show b2 + 1 + 4 ≠ b1 + 1 + 3 by omega), hI_row (show b2 + 1 + 4 ≠ b1 + 1 + 2 by omega), hI_row (show b2 + 1 + 4 ≠ b1 + 1 + 1 by omega), hI_row (show b2 + 1 + 4 ≠ b1 + 1 + 0 by omega), hI_row (show b2 + 1 + 3 ≠ b1 + 1 + 2 by omega), hI_row (show b2 + 1 + 3 ≠ b1 + 1 + 1 by omega), hI_row (show b2 + 1 + 3 ≠ b1 + 1 + 0 by omega), hI_row (show b2 + 1 + 2 ≠ b1 + 1 + 1 by omega), hI_row (show b2 + 1 + 2 ≠ b1 + 1 + 0 by omega), hI_row (show b2 + 1 + 1 ≠ b1 + 1 + 0 by omega)]
      exact ih (t + 1) _ (by omega) (hB.step (v := fun k => hI S' (b2 + 1 + k) t) (fun k hk => hB.1 _ _ (by omega)))
  exact ⟨15, key1 14 0 S (by omega) ⟨fun _ _ _ => rfl, fun k j hk => by rw [if_neg (by omega)], fun _ _ => rfl⟩⟩
theorem p_copyAll {ln : Nat → Nat} {S : HC} {r1 r2 : Nat} {post : HC → Prop} (h1 : ln r1 = 1461) (h2 : ln r2 = 1461) (hne : r1 ≠ r2) (h : ∀ S', Fl S S' r2 0 1461 (hI S r1) → post S') : wpX8_copyAll ln S r1 r2 post := by
  have key : ∀ m j S', j + m = 1461 → Fl S S' r2 0 j (hI S r1) → LX8_copyAll_2 ln post (m + 1) S' r1 r2 (nI j) := by
    intro m
    induction m with
    | zero =>
      intro j S' hj hF
      rw [LX8_copyAll_2]
      dsimp only
      rw [if_pos (show (1461 : Int32) ≤ nI j from nI_le (a := 1461) (by omega) (by omega))]
      have ej : j = 1461 := by omega
      rw [ej] at hF
      exact h S' hF
    | succ m ih =>
      intro j S' hj hF
      rw [LX8_copyAll_2]
      dsimp only
      rw [if_neg (show ¬ (1461 : Int32) ≤ nI j from nI_ge (b := 1461) (by omega) (by decide)), h1, al_e (by omega) (by decide), h2, as_e (by omega) (by decide), lt_e, nI_1]
      exact ih (j + 1) _ (by omega) (hF.step (by omega) (hF.o hne))
  exact ⟨1461 + 1, key 1461 0 S (by omega) (Fl.rf _ _ _ _)⟩
theorem wfC_ag {f g : Nat → Int32} : ∀ (n i d : Nat), (∀ t, i ≤ t → t < i + n → f t = g t) → wfC f n i d = wfC g n i d := by
  intro n
  induction n with
  | zero => intro i d _; rfl
  | succ n ih =>
    intro i d h
    rw [wfC, wfC, h i (by omega) (by omega)]
    split
    · rfl
    · exact ih (i + 1) _ (fun t q1 q2 => h t (by omega) (by omega))
theorem LAW.cp {ln : Nat → Nat} {N : Nat} {S S' : HC} {q a a' t key c : Nat} (h : LAW ln N S q a t key c) (ht : t < 14) (h1 : ∀ r k, 91 ≤ r → hI S' r k = hI S r k) (h2 : ∀ r k, 91 ≤ r → hR S' r k = hR S r k) (h3 : ∀ k, k < 1461 → hI S' a' k = hI S a k) : LAW ln N S' q a' t key c := by
  obtain ⟨⟨a1, a2⟩, a3, a4, ⟨a5, a6⟩, a7, a8, a9, a10, a11⟩ := h
  have hc := a4.2.2
  refine ⟨⟨a1, a2⟩, by rw [h2 _ _ (by omega)]; exact a3, a4, ⟨a5, by rw [h1 _ _ (by omega)]; exact a6⟩, by rw [h3 _ (by omega)]; exact a7, by rw [h3 _ (by omega), h1 _ _ (by omega)]; exact a8, fun i hi => by rw [h3 _ (by omega), h1 _ _ (by omega)]; exact a9 i hi, ?_, fun i hi => by rw [h3 _ (by omega), h1 _ _ (by omega)]; exact a11 i hi⟩
  rw [← a10]
  exact wfC_ag c 0 0 (fun i _ hi => h3 _ (by omega))
theorem LWR.cp {ln : Nat → Nat} {N : Nat} {S S' : HC} {b a b' a' : Nat} (h : LWR ln N S b a) (h1 : ∀ r k, 91 ≤ r → hI S' r k = hI S r k) (h2 : ∀ r k, 91 ≤ r → hR S' r k = hR S r k) (h3 : ∀ k, k < 1461 → hI S' a' k = hI S a k) (h4 : hI S' b' 11 = hI S b 11) (h6 : ∀ k, k < 14 → hR S' (b' + 7) k = hR S (b + 7) k) : LWR ln N S' b' a' := by
  obtain ⟨m, m1, m2, m3, m4⟩ := h
  refine ⟨m, m1, by rw [h4]; exact m2, by rw [h3 _ (by decide)]; exact m3, fun t ht => ?_⟩
  obtain ⟨q, key, c, q1, q2⟩ := m4 t ht
  exact ⟨q, key, c, by rw [h6 _ (by omega)]; exact q1, q2.cp (by omega) h1 h2 h3⟩
theorem LR.cp {S S' : HC} {b a b' a' n : Nat} (h : LR S b a n) (h1 : ∀ k j, k < 6 → j < 14 → hI S' (b' + 1 + k) j = hI S (b + 1 + k) j) (h2 : ∀ f, f = 6 ∨ f = 7 ∨ f = 8 ∨ f = 9 ∨ f = 11 → hI S' b' f = hI S b f) (h3 : ∀ k, k < 1461 → hI S' a' k = hI S a k) : LR S' b' a' n := by
  obtain ⟨a1, a2, a3, a4, a5, a6, a7, a8⟩ := h
  have e : AG n (mf S' a') (mf S a) := fun k hk j hj => h3 _ (by omega)
  refine ⟨a1, by rw [h2 6 (by omega)]; exact a2, by rw [h3 _ (by decide)]; exact a3, fun k hk j hj => ?_, a5.ag e, by rw [h2 7 (by omega), h3 _ (by decide)]; exact a6, by rw [h2 8 (by omega), h3 _ (by decide)]; exact a7, by rw [h2 9 (by omega), h3 _ (by decide)]; exact a8⟩
  rw [e k hk j hj, ← a4 k hk j hj]
  exact h1 k j hk (by omega)
theorem s_keep {N : Nat} {ln : Nat → Nat} {S : HC} (h : PI N ln S) : wpX7_keep ln S 0 fun v S => wpX8_keep ln S 68 fun w S => OK N ln v w S := by
  obtain ⟨⟨hs, hl, -, -⟩, ⟨⟨n, hn⟩, hw⟩, -⟩ := id h
  unfold wpX7_keep
  rw [sh0_1 hs, dn_e, sh0_0 hs, dn_e]
  refine p_become hs hl (Or.inr (Or.inl rfl)) (Or.inl rfl) (by omega) (fun S1 f1 => ?_)
  have hs1 : SH S1 := hs.lw (Or.inr (Or.inl rfl)) f1.2.2.2.1
  rw [lt_e, sh0_0 (hs1.sI _ _ _), dn_e, lt_e, hI_row (by decide), f1.1 1 6 (by omega), hn.2.1]
  unfold wpX8_keep
  dsimp only
  rw [sh68_0 (hs1.sI _ _ _), dn_e, sh68_1 (hs1.sI _ _ _), dn_e]
  refine p_copyAll (ln69 hl) (ln70 hl) (by decide) (fun S2 f2 => ?_)
  have hs2 : SH S2 := f2.sh (hs1.sI _ _ _)
  have e2 : ∀ r k, r ≠ 70 → ¬ (r = 0 ∧ k = 2) → ¬ (9 ≤ r ∧ r ≤ 15) → hI S2 r k = hI S r k := fun r k q1 q2 q3 => by rw [f2.o q1, hI_ne q2, f1.1 r k (by omega)]
  rw [lt_e, sh68_0 (hs2.sI _ _ _), dn_e, ln69 hl, al_l1 (by decide) (by decide), hI_row (by decide), e2 69 1 (by decide) (by decide) (by decide), hn.2.2.1]
  have r3 : ∀ r k, r ≠ 70 → ¬ (r = 0 ∧ k = 2) → ¬ (9 ≤ r ∧ r ≤ 15) → ¬ (r = 68 ∧ k = 3) → hI (sI S2 68 3 1) r k = hI S r k := fun r k q1 q2 q3 q4 => by rw [hI_ne q4, e2 r k q1 q2 q3]
  have m3 : ∀ k, k < 1461 → hI (sI S2 68 3 1) 70 k = hI S 69 k := fun k hk => by rw [hI_row (by decide), f2.i (by omega) hk, hI_row (by decide), f1.1 _ _ (by omega)]
  have x3 : ∀ r k, 9 ≤ r → r ≤ 15 → hI (sI S2 68 3 1) r k = hI S1 r k := fun r k q1 q2 => by rw [hI_row (by omega), f2.o (by omega), hI_row (by omega)]
  refine ⟨rfl, h.img (hs2.sI _ _ _) (fun r k q => r3 r k (by omega) (by omega) (by omega) (by omega)) (fun r k q => by rw [hR_sI, f2.2, hR_sI, f1.2.2.2.1 r k (by omega)]) ⟨?_, Or.inr ⟨hI_self _ _ _ _, ⟨n, hn.cp (fun k j hk hj => by rw [x3 _ _ (by omega) (by omega)]; exact f1.2.1 k j hk hj) (fun f hf => by rw [x3 _ _ (by omega) (by omega)]; exact f1.2.2.1 f hf) m3⟩, hw.cp (fun r k q => r3 r k (by omega) (by omega) (by omega) (by omega)) (fun r k q => by rw [hR_sI, f2.2, hR_sI, f1.2.2.2.1 r k (by omega)]) m3 (by rw [x3 _ _ (by omega) (by omega)]; exact f1.2.2.1 11 (by omega)) (fun k hk => by rw [hR_sI, f2.2, hR_sI]; exact f1.2.2.2.2 k hk)⟩⟩⟩
  rw [hI_self, hI_row (by decide), f2.o (by decide), hI_self]
theorem s_back {N : Nat} {ln : Nat → Nat} {S : HC} (h : PI N ln S) : wpX7_back ln S 0 fun v S => wpX8_back ln S 68 fun w S => OK N ln v w S := by
  obtain ⟨⟨hs, hl, hN1, hN2⟩, ⟨⟨n, hn⟩, hw⟩, ⟨hi1, hi2⟩, b3, b4, b5, b6, b7⟩ := id h
  unfold wpX7_back
  rw [lt_e, hi1]
  by_cases c : hI S 68 3 = 0
  · rw [if_pos c]
    unfold wpX8_back
    dsimp only
    rw [lt_e, if_pos c]
    exact ⟨rfl, h⟩
  obtain ⟨i1, ⟨n2, hn2⟩, hw2⟩ : hI S 68 3 = 1 ∧ (∃ n, LR S 9 70 n) ∧ LWR ln N S 9 70 := by
    rcases hi2 with q | q
    · exact absurd q c
    · exact q
  rw [if_neg c, sh0_0 hs, dn_e, sh0_1 hs, dn_e]
  refine p_become hs hl (Or.inl rfl) (Or.inr (Or.inl rfl)) (by omega) (fun S1 f1 => ?_)
  have hs1 : SH S1 := hs.lw (Or.inl rfl) f1.2.2.2.1
  rw [sh0_0 hs1, dn_e, lt_e, f1.2.2.1 6 (by omega), hn2.2.1]
  unfold wpX8_back
  dsimp only
  rw [lt_e, f1.1 68 3 (by omega), if_neg c, sh68_1 hs1, dn_e, sh68_0 hs1, dn_e]
  refine p_copyAll (ln70 hl) (ln69 hl) (by decide) (fun S2 f2 => ?_)
  have hs2 : SH S2 := f2.sh hs1
  have r3 : ∀ r k, r ≠ 69 → ¬ (1 ≤ r ∧ r ≤ 7) → hI S2 r k = hI S r k := fun r k q1 q2 => by rw [f2.o q1, f1.1 r k (by omega)]
  have m3 : ∀ k, k < 1461 → hI S2 69 k = hI S 70 k := fun k hk => by rw [f2.i (by omega) hk, f1.1 _ _ (by omega)]
  have rr : ∀ r k, r ≠ 8 → hR S2 r k = hR S r k := fun r k q => by rw [f2.2, f1.2.2.2.1 r k (by omega)]
  rw [sh68_0 hs2, dn_e, ln69 hl, al_l1 (by decide) (by decide), m3 1 (by decide), hn2.2.2.1]
  refine ⟨rfl, ⟨⟨hs2, hl, hN1, hN2⟩, ⟨⟨n2, hn2.cp (fun k j hk hj => by rw [f2.o (by omega)]; exact f1.2.1 k j hk hj) (fun f hf => by rw [f2.o (by omega)]; exact f1.2.2.1 f hf) m3⟩, hw2.cp (fun r k q => r3 r k (by omega) (by omega)) (fun r k q => rr r k (by omega)) m3 (by rw [f2.o (by omega)]; exact f1.2.2.1 11 (by omega)) (fun k hk => by rw [f2.2]; exact f1.2.2.2.2 k hk)⟩, h.2.2.1.ag (fun r k q => r3 r k (by omega) (by omega)) (fun r k q => rr r k (by omega)), b3.ag (fun r k q => r3 r k (by omega) (by omega)), b4.ag (fun r k q => r3 r k (by omega) (by omega)), b5.ag (fun r k q => r3 r k (by omega) (by omega)), b6.ag (fun r k q => r3 r k (by omega) (by omega)), b7.ag (fun r k q => r3 r k (by omega) (by omega))⟩⟩
