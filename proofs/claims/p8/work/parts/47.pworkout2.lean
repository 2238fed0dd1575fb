/-! shields: the class's side, on -/
theorem dec2_e {h : Int32} (hh : V64 h) : (if 0 < h - 2 then h - 2 else 0) = if 2 ≤ h then h - 2 else 0 := by
  obtain ⟨c, hc, rfl⟩ := hh
  by_cases e : 2 ≤ c
  · rw [show nI c - 2 = nI (c - 2) from pk_sub (b := 2) e, if_pos (show (2 : Int32) ≤ nI c from nI_le (a := 2) e (by omega))]
    by_cases e2 : c = 2
    · subst e2; decide
    · rw [if_pos (show (0 : Int32) < nI (c - 2) from nI_lt (a := 0) (by omega) (by omega))]
  · rcases (show c = 0 ∨ c = 1 by omega) with rfl | rfl <;> decide
theorem p_byKind {ln : Nat → Nat} {N : Nat} {S : HC} {b n ch p : Nat} {f : Nat → Nat → Int32} {o : Option ((Nat → Int32) × Nat)} {hv0 : Int32} {post : Int32 → HC → Prop} (hs : SH S) (hl : LN ln) (hb : LB b) (hk : LK ln N S b n f o) (hv : VP n f) (h14 : n ≤ 14) (hc : ch < 8) (hp : p < n) (hh : V64 hv0) (h : post (byK (f 0 p) (f 4 p = nI ch) hv0 (if f 2 p = -1 then 0 else hI S 26 (14 * ch + ixN (f 2 p)))) S) : wpX4_byKind ln S 25 (nI p) (nI ch) hv0 post := by
  have ef : ∀ k, k < 6 → hI S (b + 1 + k) p = f k p := fun k q => hk.2.2.2.1 k q p hp
  have main : ∀ t0 : Int32, (t0 = if f 4 p = nI ch then 1 else 0) → BX4_byKind_27 ln post S 25 (nI p) (nI ch) hv0 (if 2 ≤ hv0 then hv0 - 2 else 0) t0 := fun t0 et => by
    unfold BX4_byKind_27
    rw [hk.1, dn_e, lb_r hs hb (i := 0) (by decide), dn_e, lb_n hl hb (i := 0) (by decide), al_e (by omega) (by decide), ef 0 (by decide)]
    unfold byK at h
    by_cases k1 : f 0 p = 1
    · rw [if_pos k1] at h ⊢; exact h
    rw [if_neg k1] at h ⊢
    by_cases k2 : f 0 p = 2
    · rw [if_pos k2] at h ⊢
      by_cases u : f 4 p = nI ch
      · rw [if_pos u] at h et
        rw [et, if_neg (by decide)]; exact h
      · rw [if_neg u] at h et
        rw [et, if_pos rfl]; exact h
    rw [if_neg k2] at h ⊢
    by_cases k3 : f 0 p = 3
    · rw [if_pos k3] at h ⊢
      rw [ne_e (by decide), lt_e]; exact h
    rw [if_neg k3] at h ⊢
    by_cases k4 : f 0 p = 4
    · rw [if_pos k4] at h ⊢
      by_cases u : f 4 p = nI ch
      · rw [if_pos u] at h et
        rw [et, if_neg (by decide)]; exact h
      · rw [if_neg u] at h et
        rw [et, if_pos rfl]; exact h
    rw [if_neg k4] at h ⊢
    by_cases k5 : f 0 p = 5
    · rw [if_pos k5] at h ⊢
      rw [dn_e, lb_r hs hb (i := 2) (by decide), dn_e, lb_n hl hb (i := 2) (by decide), al_e (by omega) (by decide), ef 2 (by decide)]
      rcases hv.mot hp with u | ⟨m, hm, u⟩
      · rw [if_pos u] at h
        rw [u, p_hidden0 hk.1 hk.2.2.1]; exact h
      · rw [u, if_neg (m1_ne (by omega)), ixN_e (by omega)] at h
        rw [u, p_hidden hs hl hk.1 hk.2.2.1 h14 (by omega) hc]; exact h
    · rw [if_neg k5] at h ⊢; exact h
  unfold wpX4_byKind
  rw [lt_e, lt_e, dec2_e hh, hk.1, dn_e, lb_r hs hb (i := 4) (by decide), dn_e, lb_n hl hb (i := 4) (by decide), al_e (by omega) (by decide), ef 4 (by decide)]
  by_cases u : f 4 p = nI ch
  · rw [if_pos u]; exact main 1 (by rw [if_pos u])
  · rw [if_neg u]; exact main 0 (by rw [if_neg u])
/-- the first i parts of the charge ch stand in 26 -/
def WO (S S' : HC) (ch i : Nat) (T : Nat → Int32) : Prop := (∀ q k, q ≠ 26 → q ≠ 28 → hI S' q k = hI S q k) ∧ (∀ k, ¬ (14 * ch ≤ k ∧ k < 14 * ch + i) → hI S' 26 k = hI S 26 k) ∧ (∀ j, j < i → hI S' 26 (14 * ch + j) = T j) ∧ ∀ q k, hR S' q k = hR S q k
theorem p_workOut {ln : Nat → Nat} {N : Nat} {S : HC} {b n ch : Nat} {f : Nat → Nat → Int32} {o : Option ((Nat → Int32) × Nat)} {post : HC → Prop} (hs : SH S) (hl : LN ln) (hb : LB b) (hk : LK ln N S b n f o) (hv : VP n f) (h14 : n ≤ 14) (hc : ch < 8) (h : ∀ S', WO S S' ch n (ptT n f o (nI ch) n) → post S') : wpX4_workOut ln S 25 (nI ch) post := by
  have key : ∀ m i S', i + m = n → WO S S' ch i (ptT n f o (nI ch) i) → LX4_workOut_2 ln post (m + 1) S' 25 (nI ch) (nI i) := by
    intro m
    induction m with
    | zero =>
      intro i S' hi hw
      have k' := hk.ag hb hw.1 hw.2.2.2
      rw [LX4_workOut_2]
      dsimp only
      rw [k'.1, dn_e, lt_e, k'.2.2.1, if_pos (nI_le (by omega) (by omega))]
      have e : i = n := by omega
      subst e
      exact h S' hw
    | succ m ih =>
      intro i S' hi hw
      have k' := hk.ag hb hw.1 hw.2.2.2
      have hs' : SH S' := hs.of (fun _ _ => hw.2.2.2 _ _)
      rw [LX4_workOut_2]
      dsimp only
      rw [k'.1, dn_e, lt_e, k'.2.2.1, if_neg (nI_ge (by omega) (by omega)), sh25_0 hs', dn_e, lt_e, lt_e]
      refine p_asHeir hs' hl hb k' hv h14 hc (by omega) (fun S1 q1 q2 => ?_)
      have k1 := k'.ag hb (fun q k _ u => q1 q k u) q2
      have hs1 : SH S1 := hs'.of (fun _ _ => q2 _ _)
      refine p_byKind hs1 hl hb k1 hv h14 hc (by omega) ptH_ok ?_
      rw [show nI ch * 14 = nI (ch * 14) from pk_mul ch 14, nI_add, ln26 hl, as_e (by omega) (by decide), lt_e, nI_1, Nat.mul_comm ch 14]
      have ag := pt1_ag (o := o) (ch := nI ch) (T := fun j => hI S' 26 (14 * ch + j)) (T' := ptT n f o (nI ch) i) hv (show i < n by omega) h14 (fun j hj => hw.2.2.1 j hj)
      have e1 : (fun j => hI S1 26 (14 * ch + j)) = fun j => hI S' 26 (14 * ch + j) := by funext j; exact q1 _ _ (by decide)
      have ev : byK (f 0 i) (f 4 i = nI ch) (ptH n f o (nI ch) (fun j => hI S' 26 (14 * ch + j)) i) (if f 2 i = -1 then 0 else hI S1 26 (14 * ch + ixN (f 2 i))) = pt1 n f o (nI ch) (ptT n f o (nI ch) i) i := by
        rw [← ag.2]
        unfold pt1
        rw [q1 26 _ (by decide)]
      rw [ev]
      refine ih (i + 1) _ (by omega) ⟨fun q k u1 u2 => ?_, fun k u => ?_, fun j hj => ?_, fun q k => ?_⟩
      · rw [hI_row u1, q1 q k u2]; exact hw.1 q k u1 u2
      · rw [hI_ne (by omega), q1 _ _ (by decide)]; exact hw.2.1 k (by omega)
      · rw [ptT]
        unfold upS
        by_cases u : j = i
        · subst u
          rw [if_pos rfl, hI_self]
        · rw [if_neg u, hI_ne (by omega), q1 _ _ (by decide)]; exact hw.2.2.1 j (by omega)
      · rw [hR_sI, q2]; exact hw.2.2.2 q k
  exact ⟨n + 1, key n 0 S (by omega) ⟨fun _ _ _ _ => rfl, fun _ _ => rfl, fun j hj => absurd hj (by omega), fun _ _ => rfl⟩⟩
