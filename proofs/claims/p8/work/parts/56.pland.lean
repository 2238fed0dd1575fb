/-! step: land -/
def clJ (f : Nat → Nat → Int32) (T : Nat → Nat → Int32) (i : Nat) : Nat → Nat
  | 0 => 0
  | j + 1 => clJ f T i j + (if alk f T j i then 1 else 0)
def clI (f : Nat → Nat → Int32) (T : Nat → Nat → Int32) : Nat → Nat
  | 0 => 0
  | i + 1 => clI f T i + clJ f T i i
theorem p_clashes {ln : Nat → Nat} {N : Nat} {S : HC} {b n : Nat} {f : Nat → Nat → Int32} {o : Option ((Nat → Int32) × Nat)} {T : Nat → Nat → Int32} {post : Int32 → HC → Prop} (hs : SH S) (hl : LN ln) (hb : LB b) (hk : LK ln N S b n f o) (h14 : n ≤ 14) (hT : ∀ ch j, ch < 8 → j < n → hI S 26 (14 * ch + j) = T ch j) (hV : ∀ ch j, V64 (T ch j)) (h : ∀ S', (∀ r k, hI S' r k = hI S r k) → (∀ r k, hR S' r k = hR S r k) → post (nI (clI f T n)) S') : wpX4_clashes ln S 25 post := by
  have key : ∀ m i S', i + m = n → (∀ r k, hI S' r k = hI S r k) → (∀ r k, hR S' r k = hR S r k) → (∀ j, j < i → (hJ S' 27 j).toBitVec.toNat = pkN (shN f T j) 8) → LX4_clashes_4 ln post (m + 1) S' 25 (nI (clI f T i)) (nI i) := by
    intro m
    induction m with
    | zero =>
      intro i S' hi g1 g2 g3
      rw [LX4_clashes_4]
      dsimp only
      rw [g2, hk.1, dn_e, lt_e, g1, hk.2.2.1, if_pos (nI_le (by omega) (by omega)), show i = n by omega]
      exact h S' g1 g2
    | succ m ih =>
      intro i S' hi g1 g2 g3
      have hs' : SH S' := hs.of (fun _ _ => g2 _ _)
      have k' : LK ln N S' b n f o := hk.ag hb (fun q k _ _ => g1 q k) g2
      rw [LX4_clashes_4]
      dsimp only
      rw [k'.1, dn_e, lt_e, k'.2.2.1, if_neg (nI_ge (by omega) (by omega)), sh25_1 hs', dn_e]
      refine p_packed hs' hl hb k' h14 (by omega) (fun ch j u1 u2 => by rw [g1]; exact hT ch j u1 u2) hV (fun x hx => ?_)
      rw [ln27 hl, as_e (by omega) (by decide)]
      have g3' : ∀ j, j ≤ i → (hJ (sJ S' 27 i x) 27 j).toBitVec.toNat = pkN (shN f T j) 8 := fun j hj => by
        rw [hJ_sJ]
        by_cases e : j = i
        · subst e; rw [if_pos ⟨rfl, rfl⟩]; exact hx
        · rw [if_neg (fun u => e u.2)]; exact g3 j (by omega)
      have inner : ∀ m2 j, j + m2 = i → LX4_clashes_28 ln post (LX4_clashes_4 ln post (m + 1)) (m2 + 1) (sJ S' 27 i x) 25 (nI (clI f T i + clJ f T i j)) (nI i) (nI j) := by
        intro m2
        induction m2 with
        | zero =>
          intro j hj
          have ej : j = i := by omega
          subst ej
          rw [LX4_clashes_28]
          dsimp only
          rw [if_pos (nI_le (by omega) (by omega)), lt_e, nI_1]
          have k := ih (j + 1) (sJ S' 27 j x) (by omega) g1 g2 (fun j2 hj2 => g3' j2 (by omega))
          rw [clI] at k
          exact k
        | succ m2 ih2 =>
          intro j hj
          have k := ih2 (j + 1) (by omega)
          rw [clJ] at k
          rw [LX4_clashes_28]
          dsimp only
          unfold BX4_clashes_52
          rw [if_neg (nI_ge (by omega) (by omega)), hR_sJ, sh25_1 hs', dn_e, ln27 hl, al_e (by omega) (by decide), dn_e, ln27 hl, al_e (by omega) (by decide), lt_e, lt_e, lt_e, nI_1, nI_1]
          have iff := (lg_0 (x := hJ (sJ S' 27 i x) 27 j) (y := hJ (sJ S' 27 i x) 27 i)).trans (alk_pk hV (g3' j (by omega)) (g3' i (Nat.le_refl _)))
          by_cases z : lg_cmp (hJ (sJ S' 27 i x) 27 j) (hJ (sJ S' 27 i x) 27 i) = 0
          · rw [if_pos (iff.mp z)] at k
            rw [if_pos z]
            try rw [lt_e]
            rw [show clI f T i + clJ f T i j + 1 = clI f T i + (clJ f T i j + 1) by omega]
            exact k
          · rw [if_neg (fun u => z (iff.mpr u)), Nat.add_zero] at k
            rw [if_neg z]
            exact k
      exact ⟨i + 1, inner i 0 (by omega)⟩
  exact ⟨n + 1, key n 0 S (by omega) (fun _ _ => rfl) (fun _ _ => rfl) (fun _ u => absurd u (by omega))⟩
