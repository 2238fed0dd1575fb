/-! step: match, on -/
theorem p_mmatch {ln : Nat → Nat} {N : Nat} {S : HC} {b n ch p : Nat} {f : Nat → Nat → Int32} {o : Option ((Nat → Int32) × Nat)} {T : Nat → Int32} {x3 : Int32} {post : Int32 → HC → Prop} (hs : SH S) (hl : LN ln) (hk : MK ln N S b n f o) (hv : VP n f) (h14 : n ≤ 14) (hc : ch < 8) (hp : p < n) (hT : ∀ j, j < n → hI S 72 (8 * j + ch) = T j) (hV : ∀ j, V64 (T j)) (h : ∀ S', MC S S' → post (if 0 ≤ (mtF n f o (nI ch) T p n).1 then (if x3 = 0 then (mtF n f o (nI ch) T p n).1 else (mtF n f o (nI ch) T p n).2) else -1000000005) S') : ∃ k, LX8_match_41 ln post k S 68 (nI p) (nI ch) x3 (-1) (-1) 0 := by
  have key : ∀ m i S', i + m = n → MC S S' → (∀ k, hI S' 72 k = hI S 72 k) → LX8_match_41 ln post (m + 1) S' 68 (nI p) (nI ch) x3 (mtF n f o (nI ch) T p i).1 (mtF n f o (nI ch) T p i).2 (nI i) := by
    intro m
    induction m with
    | zero =>
      intro i S' hi c1 c2
      have e : i = n := by omega
      subst e
      have hs' := c1.sh hs
      rw [LX8_match_41]
      dsimp only
      rw [sh68_0 hs', dn_e, ln69 hl, al_l1 (by decide) (by decide), (hk.ag c1).1, if_pos (nI_le (by omega) (by omega))]
      have k := h S' c1
      by_cases u : 0 ≤ (mtF i f o (nI ch) T p i).1
      · rw [if_pos u] at k ⊢
        by_cases w : x3 = 0
        · rw [if_pos w] at k ⊢; exact k
        · rw [if_neg w] at k ⊢; exact k
      · rw [if_neg u] at k ⊢; exact k
    | succ m ih =>
      intro i S' hi c1 c2
      have hs' := c1.sh hs
      have k' := hk.ag c1
      have step : ∀ S1, MC S S1 → (∀ k, hI S1 72 k = hI S 72 k) → ¬ f 3 i = f 3 p → BX8_match_96 ln post (LX8_match_41 ln post (m + 1)) S1 68 (nI p) (nI ch) x3 (mtF n f o (nI ch) T p i).1 (mtF n f o (nI ch) T p i).2 (nI i) (mV n f o (nI ch) T p i) := fun S1 r1 r2 ne => by
        have k := ih (i + 1) S1 (by omega) r1 r2
        rw [mtF, if_neg ne] at k
        unfold BX8_match_96 BX8_match_112 BX8_match_128 BX8_match_130
        by_cases w : mV n f o (nI ch) T p i ≤ (mtF n f o (nI ch) T p i).2
        · rw [if_pos w] at k
          rw [if_pos w, if_pos w, lt_e, nI_1]; exact k
        · rw [if_neg w] at k
          rw [if_neg w, if_neg w, lt_e, nI_1]; exact k
      rw [LX8_match_41]
      dsimp only
      rw [sh68_0 hs', dn_e, ln69 hl, al_l1 (by decide) (by decide), k'.1, if_neg (nI_ge (by omega) (by omega)), p_of3 hs' hl (by omega), p_of3 hs' hl (by omega), k'.2.1 3 (by decide) i (by omega), k'.2.1 3 (by decide) p hp]
      by_cases e : f 3 i = f 3 p
      · rw [if_pos e]
        unfold BX8_match_130
        rw [lt_e, nI_1]
        have k := ih (i + 1) S' (by omega) c1 c2
        rw [mtF, if_pos e] at k
        exact k
      · rw [if_neg e, p_of3 hs' hl (by omega), k'.2.1 3 (by decide) p hp]
        have t' : ∀ j, j < n → hI S' 72 (8 * j + ch) = T j := fun j hj => by rw [c2]; exact hT j hj
        by_cases z : f 3 p = 0
        · rw [if_pos z]
          refine p_childOf (T := T) hs' hl k' hv h14 hc hp (Or.inr ⟨i, by omega, rfl, t' i (by omega), hV i⟩) (t' p hp) (hV p) (fun S1 r1 r2 => ?_)
          rw [jv_e (by omega), show jv n f o (nI ch) T p i = mV n f o (nI ch) T p i from (if_pos z).symm]
          exact step S1 (c1.tr r1) (fun k => by rw [r2, c2]) e
        · rw [if_neg z]
          refine p_childOf (T := T) hs' hl k' hv h14 hc (by omega) (Or.inr ⟨p, hp, rfl, t' p hp, hV p⟩) (t' i (by omega)) (hV i) (fun S1 r1 r2 => ?_)
          rw [jv_e (by omega), show jv n f o (nI ch) T i p = mV n f o (nI ch) T p i from (if_neg z).symm]
          exact step S1 (c1.tr r1) (fun k => by rw [r2, c2]) e
  have k := key n 0 S (by omega) (MC.rf S) (fun _ => rfl)
  rw [mtF] at k
  exact ⟨n + 1, k⟩
