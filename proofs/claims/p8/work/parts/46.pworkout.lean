/-! shields: one charge worked out, the class's side -/
theorem LK.ag {ln : Nat → Nat} {N : Nat} {S S' : HC} {b n : Nat} {f : Nat → Nat → Int32} {o : Option ((Nat → Int32) × Nat)} (h : LK ln N S b n f o) (hb : LB b) (h1 : ∀ q k, q ≠ 26 → q ≠ 28 → hI S' q k = hI S q k) (h2 : ∀ q k, hR S' q k = hR S q k) : LK ln N S' b n f o := by
  obtain ⟨a1, a2, a3, a4, a5⟩ := h
  have bb : ∀ i, i ≤ 6 → b + i ≠ 26 ∧ b + i ≠ 28 := fun i hi => by rcases hb with rfl | rfl | rfl | rfl <;> omega
  refine ⟨by rw [h2]; exact a1, by rw [h1 _ _ (by decide) (by decide)]; exact a2, by rw [h1 b 6 (bb 0 (by decide)).1 (bb 0 (by decide)).2]; exact a3, fun k hk j hj => ?_, ?_⟩
  · have := a4 k hk j hj
    unfold xf at *
    rw [h1 _ _ (by have := (bb (1 + k) (by omega)).1; omega) (by have := (bb (1 + k) (by omega)).2; omega)]
    exact this
  · rcases a5 with ⟨e1, e2⟩ | ⟨q, t, c, am, ham, e1, e2, e3⟩
    · exact Or.inl ⟨by rw [h2]; exact e1, e2⟩
    · refine Or.inr ⟨q, t, c, am, ham, by rw [h2]; exact e1, e2.ag (fun r k u => h1 r k (by omega) (by omega)) (fun r k _ => h2 r k) (fun k _ => h1 _ _ (by omega) (by omega)), ?_⟩
      rw [e3]
      congr 2
      funext i
      exact (h1 _ _ (by omega) (by omega)).symm
theorem pt1_ag {n : Nat} {f : Nat → Nat → Int32} {o : Option ((Nat → Int32) × Nat)} {ch : Int32} {T T' : Nat → Int32} {i : Nat} (hv : VP n f) (hi : i < n) (h14 : n ≤ 14) (hT : ∀ j, j < i → T j = T' j) : ptH n f o ch T i = ptH n f o ch T' i ∧ pt1 n f o ch T i = pt1 n f o ch T' i := by
  have hm : ¬ f 2 i = -1 → T (ixN (f 2 i)) = T' (ixN (f 2 i)) := fun u => by
    rcases hv.mot hi with e | ⟨p, hp, e⟩
    · exact absurd e u
    · rw [e, ixN_e (by omega)]; exact hT p hp
  have hh : ptH n f o ch T i = ptH n f o ch T' i := by
    unfold ptH
    rcases hv.fat hi with e | ⟨p, hp, e⟩
    · rw [if_pos e, if_pos e]
    · have ne : ¬ f 1 i = -1 := by rw [e]; exact m1_ne (by omega)
      rw [if_neg ne, if_neg ne, e, ixN_e (by omega), hT p hp]
      by_cases u : ¬ f 2 i = -1 ∧ herP n f (ixN (f 2 i))
      · rw [if_pos u, if_pos u, hm u.1]
      · rw [if_neg u, if_neg u]
  refine ⟨hh, ?_⟩
  unfold pt1
  rw [hh]
  by_cases u : f 2 i = -1
  · rw [if_pos u, if_pos u]
  · rw [if_neg u, if_neg u, hm u]
theorem p_asHeir {ln : Nat → Nat} {N : Nat} {S : HC} {b n ch p : Nat} {f : Nat → Nat → Int32} {o : Option ((Nat → Int32) × Nat)} {post : Int32 → HC → Prop} (hs : SH S) (hl : LN ln) (hb : LB b) (hk : LK ln N S b n f o) (hv : VP n f) (h14 : n ≤ 14) (hc : ch < 8) (hp : p < n) (h : ∀ S', (∀ q k, q ≠ 28 → hI S' q k = hI S q k) → (∀ q k, hR S' q k = hR S q k) → post (ptH n f o (nI ch) (fun j => hI S 26 (14 * ch + j)) p) S') : wpX4_asHeir ln S 25 (nI p) (nI ch) post := by
  have ef : ∀ k, k < 6 → hI S (b + 1 + k) p = f k p := fun k q => hk.2.2.2.1 k q p hp
  unfold wpX4_asHeir
  rw [hk.1, dn_e, lb_r hs hb (i := 1) (by decide), dn_e, lb_n hl hb (i := 1) (by decide), al_e (by omega) (by decide), ef 1 (by decide)]
  unfold ptH at h
  rcases hv.fat hp with e | ⟨fa, hfa, e⟩
  · rw [if_pos e] at h ⊢
    rw [dn_e, lb_r hs hb (i := 4) (by decide), dn_e, lb_n hl hb (i := 4) (by decide), al_e (by omega) (by decide), ef 4 (by decide)]
    have k := h S (fun _ _ _ => rfl) (fun _ _ => rfl)
    by_cases u : f 4 p = nI ch
    · rw [if_pos u] at k ⊢; exact k
    · rw [if_neg u] at k ⊢; exact k
  · have ne : ¬ f 1 p = -1 := by rw [e]; exact m1_ne (by omega)
    rw [if_neg ne] at h ⊢
    rw [dn_e, lb_r hs hb (i := 1) (by decide), dn_e, lb_n hl hb (i := 1) (by decide), al_e (by omega) (by decide), ef 1 (by decide), dn_e, lb_r hs hb (i := 2) (by decide), dn_e, lb_n hl hb (i := 2) (by decide), al_e (by omega) (by decide), ef 2 (by decide), e]
    refine p_joined (T := fun j => hI S 26 (14 * ch + j)) hs hl hk h14 hc (by omega) ?_ (fun _ _ => rfl) (fun S' q1 q2 => ?_)
    · rcases hv.mot hp with u | ⟨m, hm, u⟩
      · exact Or.inl u
      · exact Or.inr ⟨m, by omega, u⟩
    · have k := h S' q1 q2
      rw [e, ixN_e (by omega)] at k
      exact k
