/-! step text, the tape being empty -/
theorem adv0 {ln : Nat → Nat} {S : HC} {post : HC → Prop} (hs : SH S) (h1 : hI S 38 1 = 0) (k1 : hI S 37 1 = 0) (k3 : hI S 37 3 = 0) (h : ∀ S', (∀ r k, ¬ (r = 37 ∧ (k = 1 ∨ k = 2 ∨ k = 3)) → hI S' r k = hI S r k) → hI S' 37 1 = 0 → hI S' 37 2 = 0 → (∀ r k, hR S' r k = hR S r k) → post S') : wpX2_advance ln S 37 post := by
  unfold wpX2_advance BX2_advance_21
  rw [lt_e, k1, if_neg (by decide), lt_e, if_neg (by decide), lt_e, k3, lt_e]
  refine ⟨1, ?_⟩
  rw [LX2_advance_30]
  dsimp only
  rw [lt_e, sh37_0 (hs.sI _ _ _), dn_e, lt_e, hI_row (by decide), h1, hI_self, if_pos (by decide)]
  unfold BX2_advance_73 BX2_advance_89
  rw [lt_e, lt_e, hI_self, hI_ne (by decide), k3, if_pos (by decide), sh37_0 (hs.sI _ _ _), dn_e, lt_e]
  unfold wpX6_at BX6_at_27
  rw [if_neg (by decide), lt_e, hI_row (by decide), h1, if_pos (by decide)]
  unfold wpX2_sortOf
  dsimp only
  rw [if_neg (by decide)]
  simp only [lt_e]
  have e1 : hI (sI (sI (sI S 37 2 0) 37 1 0) 37 3 (hI (sI (sI S 37 2 0) 37 1 0) 37 2)) 37 1 = 0 := by rw [hI_ne (by decide), hI_self]
  rw [e1, if_neg (by decide), if_pos rfl]
  refine h _ (fun r k u => ?_) e1 ?_ (fun _ _ => rfl)
  · rw [hI_ne (by omega), hI_ne (by omega), hI_ne (by omega)]
  · rw [hI_ne (by decide), hI_ne (by decide), hI_self]
theorem isW0 {ln : Nat → Nat} {S : HC} {a : Nat} {post : Int32 → HC → Prop} (h1 : hI S 37 1 = 0) (h : post 0 S) : wpX2_isWord ln S 37 a post := by
  unfold wpX2_isWord BX2_isWord_24
  rw [lt_e, h1, if_neg (by decide), rb_e0]
  exact h
theorem s_text0 {N : Nat} {ln : Nat → Nat} {S : HC} {R : Int32 → Int32 → Nat → (Nat → Nat) → HC → Prop} (h : PI N ln S) (h0 : hI S 38 1 = 0) (hR0 : ∀ v S', PI N ln S' → R v v N ln S') : wpX7_text N ln S 0 fun v N1 ln1 S1 => wpX8_text ln1 S1 68 fun w S2 => R v w N1 ln1 S2 := by
  obtain ⟨⟨hs, hl, -, -⟩, -, -, ⟨k, k1, k2, k3, k4⟩, -⟩ := id h
  have ek : k = 0 := by
    rw [h0] at k2
    have := (nI_eq (a := 0) (b := k) (by decide) (by omega)).mp k2
    omega
  subst ek
  have k3' : hI S 68 7 = 0 := k3
  unfold wpX7_text wpX2_readTape
  rw [sh0_5 hs, dn_e]
  simp only [lt_e]
  generalize hS1 : sI (sI (sI (sI (sI (sI (sI (sI S 37 1 0) 37 2 0) 37 3 0) 37 6 0) 37 7 0) 37 8 0) 37 9 0) 37 10 (-1) = S1
  have o1 : ∀ r k, r ≠ 37 → hI S1 r k = hI S r k := fun r k u => by rw [← hS1, hI_row u, hI_row u, hI_row u, hI_row u, hI_row u, hI_row u, hI_row u, hI_row u]
  have r1 : ∀ r k, hR S1 r k = hR S r k := fun r k => by rw [← hS1]; rfl
  have f1 : hI S1 37 1 = 0 := by rw [← hS1, hI_ne (by decide), hI_ne (by decide), hI_ne (by decide), hI_ne (by decide), hI_ne (by decide), hI_ne (by decide), hI_ne (by decide), hI_self]
  have f3 : hI S1 37 3 = 0 := by rw [← hS1, hI_ne (by decide), hI_ne (by decide), hI_ne (by decide), hI_ne (by decide), hI_ne (by decide), hI_self]
  have f10 : hI S1 37 10 = -1 := by rw [← hS1, hI_self]
  have hs1 : SH S1 := hs.of (fun _ _ => r1 _ _)
  refine adv0 hs1 (by rw [o1 _ _ (by decide)]; exact h0) f1 f3 (fun S2 o2 g1 g2 r2 => ?_)
  unfold wpX2_keyHere
  refine isW0 g1 ?_
  rw [if_pos rfl]
  refine isW0 g1 ?_
  rw [if_pos rfl]
  refine isW0 g1 ?_
  rw [if_pos rfl]
  simp only [hI_self]
  rw [if_neg (by decide)]
  unfold wpX2_fail
  simp only [lt_e]
  rw [hI_ne (by decide), o2 37 10 (by omega), f10, if_neg (by decide), hI_ne (by decide), g2]
  have hs2 : SH S2 := hs1.of (fun _ _ => r2 _ _)
  have hs3 : SH (sI (sI S2 37 4 (-1)) 37 10 0) := (hs2.sI _ _ _).sI _ _ _
  rw [sh0_5 hs3, dn_e, sh37_0 hs3, dn_e, sh0_5 (hs3.sI _ _ _), dn_e, hI_row (by decide), hI_self, if_neg (by decide), dn_e, hI_row (by decide), hI_self]
  have hs4 := hs3.sI 38 1 0
  generalize hS4 : sI (sI (sI S2 37 4 (-1)) 37 10 0) 38 1 0 = S4 at hs4 ⊢
  have o4 : ∀ r k, r ≠ 37 → hI S4 r k = hI S r k := fun r k u => by
    rw [← hS4]
    by_cases e : r = 38 ∧ k = 1
    · rw [e.1, e.2, hI_self, h0]
    · rw [hI_ne e, hI_row u, hI_row u, o2 r k (fun q => u q.1), o1 r k u]
  have r4 : ∀ r k, hR S4 r k = hR S r k := fun r k => by rw [← hS4]; exact (r2 r k).trans (r1 r k)
  unfold wpX8_text wpX8_go
  simp only [lt_e]
  have e8 : hI (sI (sI S4 68 8 0) 68 12 (-1)) 68 8 = 0 := by rw [hI_ne (by decide), hI_self]
  have e7 : hI (sI (sI S4 68 8 0) 68 12 (-1)) 68 7 = 0 := by rw [hI_ne (by decide), hI_ne (by decide), o4 _ _ (by decide), k3']
  rw [e8, e7, if_pos (by decide)]
  unfold BX8_go_38 BX8_go_62
  simp only [lt_e]
  rw [e8, hI_self, hI_ne (by decide), hI_self, if_neg (by decide), hI_ne (by decide), e7, if_pos rfl]
  unfold wpX8_takesKey
  rw [lt_e, hI_self, if_neg (by decide), rb_e0]
  try dsimp only
  rw [if_pos rfl]
  unfold BX8_text_32 BX8_text_33
  simp only [lt_e]
  rw [if_pos trivial]
  have e9 : hI (sI (sI (sI (sI (sI S4 68 8 0) 68 12 (-1)) 68 9 0) 68 10 0) 68 7 0) 68 9 = 0 := by rw [hI_ne (by decide), hI_ne (by decide), hI_self]
  rw [e9]
  refine hR0 _ _ (h.sm ⟨fun r k u => ?_, fun r k _ _ _ => r4 r k⟩)
  unfold sc at u
  by_cases e : r = 68 ∧ k = 7
  · rw [e.1, e.2, hI_self, k3']
  · rw [hI_ne e, hI_ne (by omega), hI_ne (by omega), hI_ne (by omega), hI_ne (by omega), o4 r k (by omega)]
