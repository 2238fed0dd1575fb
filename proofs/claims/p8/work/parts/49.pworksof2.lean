/-! shields: the reference's side, on -/
theorem p_worksPart {ln : Nat → Nat} {N : Nat} {S : HC} {b n ch i : Nat} {f : Nat → Nat → Int32} {o : Option ((Nat → Int32) × Nat)} {T : Nat → Int32} {post : Int32 → HC → Prop} (hs : SH S) (hl : LN ln) (hk : MK ln N S b n f o) (hv : VP n f) (h14 : n ≤ 14) (hc : ch < 8) (hi : i < n) (hT : ∀ j, j < i → hI S 72 (8 * j + ch) = T j) (hT2 : ∀ j, V64 (T j)) (h : ∀ S', MC S S' → (∀ k, hI S' 72 k = hI S 72 k) → post (pt1 n f o (nI ch) T i) S') : wpX8_worksPart ln S 68 (nI i) (nI ch) post := by
  have main : ∀ (t0 hv0 : Int32) (S1 : HC), (t0 = if f 4 i = nI ch then 1 else 0) → hv0 = ptH n f o (nI ch) T i → MC S S1 → (∀ k, hI S1 72 k = hI S 72 k) → BX8_worksPart_59 ln post S1 68 (nI i) (nI ch) t0 (f 2 i) hv0 := fun t0 hv0 S1 et eh c1 c2 => by
    have hs1 := c1.sh hs
    have k := h S1 c1 c2
    unfold pt1 at k
    rw [← eh] at k
    have m75 : BX8_worksPart_75 ln post S1 68 (nI i) (nI ch) t0 (f 2 i) hv0 (if 2 ≤ hv0 then hv0 - 2 else 0) := by
      unfold BX8_worksPart_75
      rw [p_of0 hs1 hl (by omega), (hk.ag c1).2.1 0 (by decide) i hi]
      unfold byK at k
      by_cases k1 : f 0 i = 1
      · rw [if_pos k1] at k ⊢; exact k
      rw [if_neg k1] at k ⊢
      by_cases k2 : f 0 i = 2
      · rw [if_pos k2] at k ⊢
        by_cases u : f 4 i = nI ch
        · rw [if_pos u] at k et
          rw [et, if_neg (by decide)]; exact k
        · rw [if_neg u] at k et
          rw [et, if_pos rfl]; exact k
      rw [if_neg k2] at k ⊢
      by_cases k3 : f 0 i = 3
      · rw [if_pos k3] at k ⊢
        rw [ne_e (by decide), lt_e]; exact k
      rw [if_neg k3] at k ⊢
      by_cases k4 : f 0 i = 4
      · rw [if_pos k4] at k ⊢
        by_cases u : f 4 i = nI ch
        · rw [if_pos u] at k et
          rw [et, if_neg (by decide)]; exact k
        · rw [if_neg u] at k et
          rw [et, if_pos rfl]; exact k
      rw [if_neg k4] at k ⊢
      by_cases k5 : f 0 i = 5
      · rw [if_pos k5] at k ⊢
        rcases hv.mot hi with u | ⟨m, hm, u⟩
        · rw [if_pos u] at k
          rw [u, if_neg (by decide)]; exact k
        · rw [u, if_neg (m1_ne (by omega)), ixN_e (by omega)] at k
          rw [u, if_pos (nI_pos' (by omega)), sh68_4 hs1, dn_e, lt_e, lt_e, show (8 : Int32) * nI m = nI (8 * m) from pk_mul 8 m, nI_add, ln72 hl, al_e (by omega) (by decide), c2, hT m hm]
          exact k
      · rw [if_neg k5] at k ⊢; exact k
    unfold BX8_worksPart_59
    by_cases u : 2 ≤ hv0
    · rw [if_pos u] at m75 ⊢
      rw [lt_e]; exact m75
    · rw [if_neg u] at m75 ⊢; exact m75
  have m15 : ∀ t0 : Int32, (t0 = if f 4 i = nI ch then 1 else 0) → BX8_worksPart_15 ln post S 68 (nI i) (nI ch) t0 := fun t0 et => by
    unfold BX8_worksPart_15
    rw [p_of1 hs hl (by omega), hk.2.1 1 (by decide) i hi, p_of2 hs hl (by omega), hk.2.1 2 (by decide) i hi]
    rcases hv.fat hi with e | ⟨fa, hfa, e⟩
    · rw [e, if_neg (by decide)]
      by_cases u : f 4 i = nI ch
      · have et2 := et
        rw [if_pos u] at et2
        rw [if_neg (by rw [et2]; decide)]
        exact main t0 64 S et (by unfold ptH; rw [if_pos e, if_pos u]) (MC.rf S) (fun _ => rfl)
      · have et2 := et
        rw [if_neg u] at et2
        rw [if_pos et2]
        exact main t0 0 S et (by unfold ptH; rw [if_pos e, if_neg u]) (MC.rf S) (fun _ => rfl)
    · rw [e, if_pos (nI_pos' (by omega))]
      refine p_childOf (T := T) hs hl hk hv h14 hc (by omega) ?_ (hT fa hfa) (hT2 fa) (fun S1 c1 c2 => ?_)
      · rcases hv.mot hi with u | ⟨m, hm, u⟩
        · exact Or.inl u
        · exact Or.inr ⟨m, by omega, u, hT m hm, hT2 m⟩
      · exact main t0 _ S1 et (by
          unfold ptH
          rw [if_neg (show ¬ f 1 i = -1 by rw [e]; exact m1_ne (by omega)), e, ixN_e (by omega)]) c1 c2
  unfold wpX8_worksPart
  rw [p_of4 hs hl (by omega), hk.2.1 4 (by decide) i hi]
  by_cases u : f 4 i = nI ch
  · rw [if_pos u]; exact m15 1 (by rw [if_pos u])
  · rw [if_neg u]; exact m15 0 (by rw [if_neg u])
def WM (S S' : HC) (ch i : Nat) (T : Nat → Int32) : Prop := MC S S' ∧ (∀ j, j < i → hI S' 72 (8 * j + ch) = T j) ∧ ∀ k, k % 8 ≠ ch → hI S' 72 k = hI S 72 k
theorem p_worksOf {ln : Nat → Nat} {N : Nat} {S : HC} {b n ch : Nat} {f : Nat → Nat → Int32} {o : Option ((Nat → Int32) × Nat)} {post : HC → Prop} (hs : SH S) (hl : LN ln) (hk : MK ln N S b n f o) (hv : VP n f) (h14 : n ≤ 14) (hc : ch < 8) (h : ∀ S', WM S S' ch n (ptT n f o (nI ch) n) → post S') : wpX8_worksOf ln S 68 (nI ch) post := by
  have key : ∀ m i S', i + m = n → WM S S' ch i (ptT n f o (nI ch) i) → LX8_worksOf_2 ln post (m + 1) S' 68 (nI ch) (nI i) := by
    intro m
    induction m with
    | zero =>
      intro i S' hi hw
      have k' := hk.ag hw.1
      rw [LX8_worksOf_2]
      dsimp only
      rw [sh68_0 (hw.1.sh hs), dn_e, ln69 hl, al_l1 (by decide) (by decide), k'.1, if_pos (nI_le (by omega) (by omega))]
      have e : i = n := by omega
      subst e
      exact h S' hw
    | succ m ih =>
      intro i S' hi hw
      have k' := hk.ag hw.1
      have hs' := hw.1.sh hs
      rw [LX8_worksOf_2]
      dsimp only
      rw [sh68_0 hs', dn_e, ln69 hl, al_l1 (by decide) (by decide), k'.1, if_neg (nI_ge (by omega) (by omega)), sh68_4 hs', dn_e, lt_e, lt_e]
      refine p_worksPart (T := ptT n f o (nI ch) i) hs' hl k' hv h14 hc (by omega) hw.2.1 (ptT_ok i) (fun S1 c1 c2 => ?_)
      rw [show (8 : Int32) * nI i = nI (8 * i) from pk_mul 8 i, nI_add, ln72 hl, as_e (by omega) (by decide), lt_e, nI_1]
      refine ih (i + 1) _ (by omega) ⟨hw.1.tr (c1.tr ⟨fun q k u _ _ => hI_row u, fun _ _ => rfl⟩), fun j hj => ?_, fun k u => ?_⟩
      · rw [ptT]
        unfold upS
        by_cases u : j = i
        · subst u
          rw [if_pos rfl, hI_self]
        · rw [if_neg u, hI_ne (by omega), c2]; exact hw.2.1 j (by omega)
      · rw [hI_ne (by omega), c2]; exact hw.2.2 k u
  exact ⟨n + 1, key n 0 S (by omega) ⟨MC.rf S, fun j hj => absurd hj (by omega), fun _ _ => rfl⟩⟩
