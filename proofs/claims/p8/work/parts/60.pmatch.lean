/-! step: match -/
def jv (n : Nat) (f : Nat → Nat → Int32) (o : Option ((Nat → Int32) × Nat)) (ch : Int32) (T : Nat → Int32) (a b : Nat) : Int32 := JF o (T a) (if herP n f b then T b else T a) ch
def mV (n : Nat) (f : Nat → Nat → Int32) (o : Option ((Nat → Int32) × Nat)) (ch : Int32) (T : Nat → Int32) (p j : Nat) : Int32 := if f 3 p = 0 then jv n f o ch T p j else jv n f o ch T j p
theorem mV_ok {n : Nat} {f : Nat → Nat → Int32} {o : Option ((Nat → Int32) × Nat)} {ch : Int32} {T : Nat → Int32} {p j : Nat} : V64 (mV n f o ch T p j) := by
  unfold mV jv
  split
  · exact JF_ok _ _ _ _
  · exact JF_ok _ _ _ _
def mtF (n : Nat) (f : Nat → Nat → Int32) (o : Option ((Nat → Int32) × Nat)) (ch : Int32) (T : Nat → Int32) (p : Nat) : Nat → Int32 × Int32
  | 0 => (-1, -1)
  | j + 1 => if f 3 j = f 3 p then mtF n f o ch T p j else if mV n f o ch T p j ≤ (mtF n f o ch T p j).2 then mtF n f o ch T p j else (nI j, mV n f o ch T p j)
theorem mtF_ok {n : Nat} {f : Nat → Nat → Int32} {o : Option ((Nat → Int32) × Nat)} {ch : Int32} {T : Nat → Int32} {p : Nat} : ∀ j, j < 100 → mtF n f o ch T p j = (-1, -1) ∨ ∃ t v, t < 100 ∧ mtF n f o ch T p j = (nI t, v) ∧ V64 v := by
  intro j
  induction j with
  | zero => intro _; exact Or.inl rfl
  | succ j ih =>
    intro hj
    rw [mtF]
    by_cases e1 : f 3 j = f 3 p
    · rw [if_pos e1]; exact ih (by omega)
    rw [if_neg e1]
    by_cases e2 : mV n f o ch T p j ≤ (mtF n f o ch T p j).2
    · rw [if_pos e2]; exact ih (by omega)
    · rw [if_neg e2]; exact Or.inr ⟨j, _, by omega, rfl, mV_ok⟩
theorem jv_e {n : Nat} {f : Nat → Nat → Int32} {o : Option ((Nat → Int32) × Nat)} {ch : Int32} {T : Nat → Int32} {a b : Nat} (hb : b < 2 ^ 31) : JF o (T a) (if ¬ nI b = -1 ∧ herP n f (ixN (nI b)) then T (ixN (nI b)) else T a) ch = jv n f o ch T a b := by
  unfold jv
  rw [ixN_e hb]
  by_cases e : herP n f b
  · rw [if_pos ⟨m1_ne hb, e⟩, if_pos e]
  · rw [if_neg (fun u => e u.2), if_neg e]
theorem p_xmatch {ln : Nat → Nat} {N : Nat} {S : HC} {n ch p : Nat} {f : Nat → Nat → Int32} {o : Option ((Nat → Int32) × Nat)} {T : Nat → Int32} {x3 : Int32} {post : Int32 → HC → Prop} (hs : SH S) (hl : LN ln) (hk : LK ln N S 1 n f o) (h14 : n ≤ 14) (hc : ch < 8) (hp : p < n) (hT : ∀ j, j < n → hI S 26 (14 * ch + j) = T j) (h : ∀ S', (∀ q k, q ≠ 28 → hI S' q k = hI S q k) → (∀ q k, hR S' q k = hR S q k) → post (if x3 = 0 then (if (mtF n f o (nI ch) T p n).1 = -1 then -1000000005 else (mtF n f o (nI ch) T p n).1) else (if (mtF n f o (nI ch) T p n).1 = -1 then -1000000005 else (mtF n f o (nI ch) T p n).2)) S') : ∃ k, LX7_match_60 ln post k S 0 (nI p) (nI ch) x3 (-1000000005) (-1000000005) 0 := by
  have key : ∀ m i S', i + m = n → (∀ q k, q ≠ 28 → hI S' q k = hI S q k) → (∀ q k, hR S' q k = hR S q k) → LX7_match_60 ln post (m + 1) S' 0 (nI p) (nI ch) x3 (if (mtF n f o (nI ch) T p i).1 = -1 then -1000000005 else (mtF n f o (nI ch) T p i).1) (if (mtF n f o (nI ch) T p i).1 = -1 then -1000000005 else (mtF n f o (nI ch) T p i).2) (nI i) := by
    intro m
    induction m with
    | zero =>
      intro i S' hi g1 g2
      have hs' : SH S' := hs.of (fun _ _ => g2 _ _)
      have e : i = n := by omega
      subst e
      rw [LX7_match_60]
      dsimp only
      rw [sh0_0 hs', dn_e, lt_e, g1 1 6 (by decide), hk.2.2.1, if_pos (nI_le (by omega) (by omega))]
      have k := h S' g1 g2
      by_cases u : x3 = 0
      · rw [if_pos u] at k ⊢; exact k
      · rw [if_neg u] at k ⊢; exact k
    | succ m ih =>
      intro i S' hi g1 g2
      have hs' : SH S' := hs.of (fun _ _ => g2 _ _)
      have k' := hk.ag (Or.inl rfl) (fun q k _ u => g1 q k u) g2
      have s3 : ∀ j, j < n → hI S' 5 j = f 3 j := fun j hj => k'.2.2.2.1 3 (by decide) j hj
      have mok := mtF_ok (n := n) (f := f) (o := o) (ch := nI ch) (T := T) (p := p) i (by omega)
      have step : ∀ S1, (∀ q k, q ≠ 28 → hI S1 q k = hI S q k) → (∀ q k, hR S1 q k = hR S q k) → ¬ f 3 i = f 3 p → BX7_match_131 ln post (LX7_match_60 ln post (m + 1)) S1 0 (nI p) (nI ch) x3 (if (mtF n f o (nI ch) T p i).1 = -1 then -1000000005 else (mtF n f o (nI ch) T p i).1) (if (mtF n f o (nI ch) T p i).1 = -1 then -1000000005 else (mtF n f o (nI ch) T p i).2) (nI i) (mV n f o (nI ch) T p i) := fun S1 r1 r2 ne => by
        have k := ih (i + 1) S1 (by omega) r1 r2
        rw [mtF, if_neg ne] at k
        obtain ⟨cv, hcv, ev⟩ := mV_ok (n := n) (f := f) (o := o) (ch := nI ch) (T := T) (p := p) (j := i)
        unfold BX7_match_131 BX7_match_147 BX7_match_155
        rcases mok with e | ⟨t, v, ht, e, hv⟩
        · rw [e] at k ⊢
          dsimp only at k ⊢
          have nn : ¬ mV n f o (nI ch) T p i ≤ (-1 : Int32) := by
            rw [ev]
            intro u
            have u2 : (0 : Int32) ≤ -1 := Int32.le_trans (nI_pos' (n := cv) (by omega)) u
            exact absurd u2 (by decide)
          rw [if_neg nn] at k
          dsimp only at k
          rw [if_neg (m1_ne (by omega)), if_neg (m1_ne (by omega))] at k
          rw [if_pos rfl, if_pos rfl, lt_e, nI_1]
          exact k
        · have nt : ¬ nI t = (-1000000005 : Int32) := fun u => by
            have := nI_pos' (n := t) (by omega)
            rw [u] at this
            exact absurd this (by decide)
          rw [e] at k ⊢
          dsimp only at k ⊢
          rw [if_neg (m1_ne (by omega)), if_neg (m1_ne (by omega)), if_neg nt]
          by_cases w : mV n f o (nI ch) T p i ≤ v
          · rw [if_pos w] at k ⊢
            dsimp only at k
            rw [if_neg (m1_ne (by omega)), if_neg (m1_ne (by omega))] at k
            rw [lt_e, nI_1]
            exact k
          · rw [if_neg w] at k ⊢
            dsimp only at k
            rw [if_neg (m1_ne (by omega)), if_neg (m1_ne (by omega))] at k
            rw [lt_e, nI_1]
            exact k
      rw [LX7_match_60]
      dsimp only
      rw [sh0_0 hs', dn_e, lt_e, g1 1 6 (by decide), hk.2.2.1, if_neg (nI_ge (by omega) (by omega)), dn_e, sh1_3 hs', dn_e, ln5 hl, al_e (by omega) (by decide), dn_e, sh1_3 hs', dn_e, ln5 hl, al_e (by omega) (by decide), s3 i (by omega), s3 p hp]
      by_cases e : f 3 i = f 3 p
      · rw [if_pos e]
        unfold BX7_match_155
        rw [lt_e, nI_1]
        have k := ih (i + 1) S' (by omega) g1 g2
        rw [mtF, if_pos e] at k
        exact k
      · rw [if_neg e, dn_e, sh1_3 hs', dn_e, ln5 hl, al_e (by omega) (by decide), s3 p hp]
        have ev : ∀ v, v = mV n f o (nI ch) T p i → v = mV n f o (nI ch) T p i := fun _ u => u
        by_cases z : f 3 p = 0
        · rw [if_pos z, sh0_4 hs', dn_e]
          refine p_joined (T := T) hs' hl k' h14 hc hp (Or.inr ⟨i, by omega, rfl⟩) (fun j hj => by rw [g1 _ _ (by decide)]; exact hT j hj) (fun S1 r1 r2 => ?_)
          rw [jv_e (by omega), show jv n f o (nI ch) T p i = mV n f o (nI ch) T p i from (if_pos z).symm]
          exact step S1 (fun q k u => by rw [r1 q k u, g1 q k u]) (fun q k => by rw [r2, g2]) e
        · rw [if_neg z, sh0_4 hs', dn_e]
          refine p_joined (T := T) hs' hl k' h14 hc (by omega) (Or.inr ⟨p, hp, rfl⟩) (fun j hj => by rw [g1 _ _ (by decide)]; exact hT j hj) (fun S1 r1 r2 => ?_)
          rw [jv_e (by omega), show jv n f o (nI ch) T i p = mV n f o (nI ch) T p i from (if_neg z).symm]
          exact step S1 (fun q k u => by rw [r1 q k u, g1 q k u]) (fun q k => by rw [r2, g2]) e
  have k := key n 0 S (by omega) (fun _ _ _ => rfl) (fun _ _ => rfl)
  rw [mtF] at k
  exact ⟨n + 1, k⟩
