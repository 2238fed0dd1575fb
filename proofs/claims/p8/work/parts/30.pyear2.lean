/-! a year, on both sides -/
theorem al_l0 {α : Type} {n : Nat} {f : Nat → α} {K : α → Prop} (hi : 0 < n) (hn : n < 2 ^ 31) : al_ n (0 : Int32) f K = K (f 0) := al_e (i := 0) hi hn
theorem as_l0 {n : Nat} {f : Nat → HC} {K : HC → Prop} (hi : 0 < n) (hn : n < 2 ^ 31) : as_ n (0 : Int32) f K = K (f 0) := as_e (i := 0) hi hn
theorem al_l1 {α : Type} {n : Nat} {f : Nat → α} {K : α → Prop} (hi : 1 < n) (hn : n < 2 ^ 31) : al_ n (1 : Int32) f K = K (f 1) := al_e (i := 1) hi hn
theorem as_l1 {n : Nat} {f : Nat → HC} {K : HC → Prop} (hi : 1 < n) (hn : n < 2 ^ 31) : as_ n (1 : Int32) f K = K (f 1) := as_e (i := 1) hi hn
theorem al_l2 {α : Type} {n : Nat} {f : Nat → α} {K : α → Prop} (hi : 2 < n) (hn : n < 2 ^ 31) : al_ n (2 : Int32) f K = K (f 2) := al_e (i := 2) hi hn
theorem as_l2 {n : Nat} {f : Nat → HC} {K : HC → Prop} (hi : 2 < n) (hn : n < 2 ^ 31) : as_ n (2 : Int32) f K = K (f 2) := as_e (i := 2) hi hn
theorem al_l3 {α : Type} {n : Nat} {f : Nat → α} {K : α → Prop} (hi : 3 < n) (hn : n < 2 ^ 31) : al_ n (3 : Int32) f K = K (f 3) := al_e (i := 3) hi hn
theorem as_l3 {n : Nat} {f : Nat → HC} {K : HC → Prop} (hi : 3 < n) (hn : n < 2 ^ 31) : as_ n (3 : Int32) f K = K (f 3) := as_e (i := 3) hi hn
theorem al_l4 {α : Type} {n : Nat} {f : Nat → α} {K : α → Prop} (hi : 4 < n) (hn : n < 2 ^ 31) : al_ n (4 : Int32) f K = K (f 4) := al_e (i := 4) hi hn
theorem as_l4 {n : Nat} {f : Nat → HC} {K : HC → Prop} (hi : 4 < n) (hn : n < 2 ^ 31) : as_ n (4 : Int32) f K = K (f 4) := as_e (i := 4) hi hn
theorem al_l5 {α : Type} {n : Nat} {f : Nat → α} {K : α → Prop} (hi : 5 < n) (hn : n < 2 ^ 31) : al_ n (5 : Int32) f K = K (f 5) := al_e (i := 5) hi hn
theorem as_l5 {n : Nat} {f : Nat → HC} {K : HC → Prop} (hi : 5 < n) (hn : n < 2 ^ 31) : as_ n (5 : Int32) f K = K (f 5) := as_e (i := 5) hi hn
def XS (b : Nat) (S S' : HC) : Prop := (∀ r k, ¬ (b ≤ r ∧ r ≤ b + 6) → hI S' r k = hI S r k) ∧ hI S' b 11 = hI S b 11 ∧ ∀ r k, hR S' r k = hR S r k
def MS (S S' : HC) : Prop := (∀ r k, r ≠ 69 → hI S' r k = hI S r k) ∧ (∀ k, 89 ≤ k ∨ k = 4 → hI S' 69 k = hI S 69 k) ∧ ∀ r k, hR S' r k = hR S r k
theorem XS.rf (b : Nat) (S : HC) : XS b S S := ⟨fun _ _ _ => rfl, rfl, fun _ _ => rfl⟩
theorem MS.rf (S : HC) : MS S S := ⟨fun _ _ _ => rfl, fun _ _ => rfl, fun _ _ => rfl⟩
theorem XS.tr {b : Nat} {S S' S'' : HC} (h : XS b S S') (h2 : XS b S' S'') : XS b S S'' := ⟨fun r k q => (h2.1 r k q).trans (h.1 r k q), h2.2.1.trans h.2.1, fun r k => (h2.2.2 r k).trans (h.2.2 r k)⟩
theorem MS.tr {S S' S'' : HC} (h : MS S S') (h2 : MS S' S'') : MS S S'' := ⟨fun r k q => (h2.1 r k q).trans (h.1 r k q), fun k q => (h2.2.1 k q).trans (h.2.1 k q), fun r k => (h2.2.2 r k).trans (h.2.2 r k)⟩
theorem XS.sh {b : Nat} {S S' : HC} (h : XS b S S') (hs : SH S) : SH S' := hs.of (fun _ _ => h.2.2 _ _)
theorem MS.sh {S S' : HC} (h : MS S S') (hs : SH S) : SH S' := hs.of (fun _ _ => h.2.2 _ _)
theorem XS.fld {b : Nat} {S : HC} {k : Nat} {v : Int32} (h : k ≠ 11) : XS b S (sI S b k v) := ⟨fun r i q => hI_row (by omega), hI_ne (by omega), fun _ _ => rfl⟩
theorem MS.fld {S : HC} {k : Nat} {v : Int32} (h : k < 89 ∧ k ≠ 4) : MS S (sI S 69 k v) := ⟨fun r i q => hI_row q, fun i q => hI_ne (by omega), fun _ _ => rfl⟩
theorem XA.z {S : HC} {b n : Nat} {f : Nat → Nat → Int32} {fe ye z w : Int32} (h : XA S b n f fe ye z) : XA (sI S b 9 w) b n f fe ye w := by
  obtain ⟨x1, x2, x3, x4, x5⟩ := h
  exact ⟨by rw [hI_ne (by omega)]; exact x1, fun q hq j hj => by rw [← x2 q hq j hj]; exact hI_row (by omega), by rw [hI_ne (by omega)]; exact x3, by rw [hI_ne (by omega)]; exact x4, hI_self _ _ _ _⟩
theorem XA.y {S : HC} {b n : Nat} {f : Nat → Nat → Int32} {fe ye z w : Int32} (h : XA S b n f fe ye z) : XA (sI S b 8 w) b n f fe w z := by
  obtain ⟨x1, x2, x3, x4, x5⟩ := h
  exact ⟨by rw [hI_ne (by omega)]; exact x1, fun q hq j hj => by rw [← x2 q hq j hj]; exact hI_row (by omega), by rw [hI_ne (by omega)]; exact x3, hI_self _ _ _ _, by rw [hI_ne (by omega)]; exact x5⟩
theorem MA.z {S : HC} {n : Nat} {f : Nat → Nat → Int32} {fe ye z w : Int32} (h : MA S n f fe ye z) : MA (sI S 69 0 w) n f fe ye w := by
  obtain ⟨x1, x2, x3, x4, x5⟩ := h
  exact ⟨by rw [hI_ne (by omega)]; exact x1, fun q hq j hj => by rw [← x2 q hq j hj]; exact hI_ne (by omega), by rw [hI_ne (by omega)]; exact x3, by rw [hI_ne (by omega)]; exact x4, hI_self _ _ _ _⟩
theorem MA.y {S : HC} {n : Nat} {f : Nat → Nat → Int32} {fe ye z w : Int32} (h : MA S n f fe ye z) : MA (sI S 69 2 w) n f fe w z := by
  obtain ⟨x1, x2, x3, x4, x5⟩ := h
  exact ⟨by rw [hI_ne (by omega)]; exact x1, fun q hq j hj => by rw [← x2 q hq j hj]; exact hI_ne (by omega), by rw [hI_ne (by omega)]; exact x3, hI_self _ _ _ _, by rw [hI_ne (by omega)]; exact x5⟩
theorem d_X {ln : Nat → Nat} {S : HC} {b n : Nat} {f : Nat → Nat → Int32} {fe ye z : Int32} {post : Int32 → HC → Prop} (hs : SH S) (hx : XA S b n f fe ye z) (h : ∀ S', SH S' → XA S' b n f fe ye (dz z) → XS b S S' → post (dv (dz z)) S') : wpX0_draw ln S b post := by
  rw [p_draw, hx.2.2.2.2]
  exact h _ (hs.sI _ _ _) hx.z (XS.fld (by decide))
theorem d_M {ln : Nat → Nat} {S : HC} {n : Nat} {f : Nat → Nat → Int32} {fe ye z : Int32} {post : Int32 → HC → Prop} (hs : SH S) (hl : LN ln) (hx : MA S n f fe ye z) (h : ∀ S', SH S' → MA S' n f fe ye (dz z) → MS S S' → post (dv (dz z)) S') : wpX8_draw ln S 68 post := by
  rw [p_mdraw hs hl, hx.2.2.2.2]
  exact h _ (hs.sI _ _ _) hx.z (MS.fld (by decide))
theorem XA.g {S : HC} {b n : Nat} {f : Nat → Nat → Int32} {fe ye z : Int32} (h : XA S b n f fe ye z) : ∀ j, j < n → xf S b 3 j = f 3 j := fun j hj => h.2.1 3 (by decide) j hj
theorem MA.g {S : HC} {n : Nat} {f : Nat → Nat → Int32} {fe ye z : Int32} (h : MA S n f fe ye z) : ∀ j, j < n → mf S 69 3 j = f 3 j := fun j hj => h.2.1 3 (by decide) j hj
/-- a child, with z as it was behind the first draw of the year -/
def chP (n : Nat) (f : Nat → Nat → Int32) (z : Int32) : Nat → Nat → Int32 := upP f n (nI (dN (dz (dz (dz (dz z)))) % 6)) (nI (nth (f 3) 0 (dN (dz z) % cnt (f 3) 0 n) n)) (nI (nth (f 3) 1 (dN (dz (dz z)) % cnt (f 3) 1 n) n)) (nI (dN (dz (dz (dz z))) % 2)) (nI (dN (dz (dz (dz (dz (dz z))))) % 8))
def chZ (z : Int32) : Int32 := dz (dz (dz (dz (dz z))))
theorem p_bring {ln : Nat → Nat} {S : HC} {b n : Nat} {f : Nat → Nat → Int32} {fe ye z : Int32} {post : Int32 → HC → Prop} (hs : SH S) (hl : LN ln) (hb : LB b) (hx : XA S b n f fe ye z) (h14 : n < 14) (h0 : ¬ (0 < cnt (f 3) 0 n ∧ 0 < cnt (f 3) 1 n) → post 0 S) (h1 : 0 < cnt (f 3) 0 n → 0 < cnt (f 3) 1 n → ∀ S', XA S' b (n + 1) (chP n f z) fe ye (chZ z) → XS b S S' → post 1 S') : wpX0_bringForth ln S b post := by
  unfold wpX0_bringForth BX0_bringForth_22
  refine p_howMany hs hl hb hx.1 (by omega) hx.g (p_howMany hs hl hb hx.1 (by omega) hx.g ?_)
  have l0 := cnt_le (f 3) 0 n
  have l1 := cnt_le (f 3) 1 n
  by_cases c0 : 0 < cnt (f 3) 0 n
  · rw [if_neg (show ¬ nI (cnt (f 3) 0 n) < 1 from nI_nlt (b := 1) (by omega) (by omega))]
    by_cases c1 : 0 < cnt (f 3) 1 n
    · rw [if_pos (show (1 : Int32) ≤ nI (cnt (f 3) 1 n) from nI_le (a := 1) (by omega) (by omega))]
      refine d_X hs hx (fun S1 hs1 hx1 hd1 => ?_)
      rw [ne_e (nI_ne0 c0 (by omega)), lt_e, drem _ c0 (by omega)]
      refine p_nthOf hs1 hl hb hx1.1 (by omega) hx1.g (Nat.mod_lt _ c0) ?_
      refine d_X hs1 hx1 (fun S2 hs2 hx2 hd2 => ?_)
      rw [ne_e (nI_ne0 c1 (by omega)), lt_e, drem _ c1 (by omega)]
      refine p_nthOf hs2 hl hb hx2.1 (by omega) hx2.g (Nat.mod_lt _ c1) ?_
      refine d_X hs2 hx2 (fun S3 hs3 hx3 hd3 => ?_)
      rw [ne_e (by decide), lt_e, show (2 : Int32) = nI 2 from rfl, drem _ (by decide) (by decide)]
      refine d_X hs3 hx3 (fun S4 hs4 hx4 hd4 => ?_)
      rw [ne_e (by decide), lt_e, show (6 : Int32) = nI 6 from rfl, drem _ (by decide) (by decide)]
      refine d_X hs4 hx4 (fun S5 hs5 hx5 hd5 => ?_)
      rw [ne_e (by decide), lt_e, show (8 : Int32) = nI 8 from rfl, drem _ (by decide) (by decide), p_add hs5 hl hb hx5.1 h14, rb_e1]
      refine h1 c0 c1 _ hx5.add ((((hd1.tr hd2).tr hd3).tr hd4).tr (hd5.tr ⟨fun r k q => xadd_o q, xadd_s (by decide), fun _ _ => rfl⟩))
    · rw [if_neg (show ¬ (1 : Int32) ≤ nI (cnt (f 3) 1 n) from nI_ge (b := 1) (by omega) (by decide)), rb_e0]
      exact h0 (fun q => c1 q.2)
  · rw [if_pos (show nI (cnt (f 3) 0 n) < 1 from nI_lt (b := 1) (by omega) (by decide)), rb_e0]
    exact h0 (fun q => c0 q.1)
def yB (n : Nat) (g : Nat → Int32) (fe z : Int32) : Prop := nI (dN (dz z) % 100) < fe ∧ n < 14 ∧ 0 < cnt g 0 n ∧ 0 < cnt g 1 n
def yN (n : Nat) (f : Nat → Nat → Int32) (fe z : Int32) : Nat := if nI (dN (dz z) % 100) < fe ∧ n < 14 ∧ 0 < cnt (f 3) 0 n ∧ 0 < cnt (f 3) 1 n then n + 1 else n
def yF (n : Nat) (f : Nat → Nat → Int32) (fe z : Int32) : Nat → Nat → Int32 := if nI (dN (dz z) % 100) < fe ∧ n < 14 ∧ 0 < cnt (f 3) 0 n ∧ 0 < cnt (f 3) 1 n then chP n f (dz z) else f
def yZ (n : Nat) (f : Nat → Nat → Int32) (fe z : Int32) : Int32 := if nI (dN (dz z) % 100) < fe ∧ n < 14 ∧ 0 < cnt (f 3) 0 n ∧ 0 < cnt (f 3) 1 n then chZ (dz z) else dz z
theorem yN_le {n : Nat} {f : Nat → Nat → Int32} {fe z : Int32} (h : n ≤ 14) : yN n f fe z ≤ 14 ∧ n ≤ yN n f fe z ∧ yN n f fe z ≤ n + 1 := by
  unfold yN
  split <;> omega
theorem chP_ok {n : Nat} {f : Nat → Nat → Int32} {z : Int32} (h : VP n f) (c0 : 0 < cnt (f 3) 0 n) (c1 : 0 < cnt (f 3) 1 n) : VP (n + 1) (chP n f z) := by
  refine h.add ⟨_, Nat.mod_lt _ (by decide), rfl⟩ (Or.inr ⟨_, (nth_ok (Nat.mod_lt _ c0)).1, rfl⟩) (Or.inr ⟨_, (nth_ok (Nat.mod_lt _ c1)).1, rfl⟩) ?_ ⟨_, Nat.mod_lt _ (by decide), rfl⟩
  rcases (show dN (dz (dz (dz z))) % 2 = 0 ∨ dN (dz (dz (dz z))) % 2 = 1 by omega) with e | e <;> rw [e]
  · exact Or.inl rfl
  · exact Or.inr rfl
theorem yF_ok {n : Nat} {f : Nat → Nat → Int32} {fe z : Int32} (h : VP n f) : VP (yN n f fe z) (yF n f fe z) := by
  unfold yN yF
  split
  · rename_i c; exact chP_ok h c.2.2.1 c.2.2.2
  · exact h
theorem p_pass {ln : Nat → Nat} {S : HC} {b n : Nat} {f : Nat → Nat → Int32} {fe ye z : Int32} {post : Int32 → HC → Prop} (hs : SH S) (hl : LN ln) (hb : LB b) (hx : XA S b n f fe ye z) (h14 : n ≤ 14) (h : ∀ S', XA S' b (yN n f fe z) (yF n f fe z) fe (ye + 1) (yZ n f fe z) → XS b S S' → post (if yN n f fe z = n then 0 else 1) S') : wpX0_passYear ln S b post := by
  unfold wpX0_passYear
  refine d_X hs hx (fun S1 hs1 hx1 hd1 => ?_)
  rw [ne_e (by decide), lt_e, show (100 : Int32) = nI 100 from rfl, drem _ (by decide) (by decide), lt_e, hx1.2.2.1]
  have hd2 : XS b S (sI S1 b 8 (ye + 1)) := hd1.tr (XS.fld (by decide))
  have no : ¬ (nI (dN (dz z) % 100) < fe ∧ n < 14 ∧ 0 < cnt (f 3) 0 n ∧ 0 < cnt (f 3) 1 n) → post 0 (sI S1 b 8 (ye + 1)) := by
    intro q
    have := h _ (by unfold yN yF yZ; rw [if_neg q, if_neg q, if_neg q]; exact hx1.y) hd2
    unfold yN at this
    rw [if_neg q, if_pos rfl] at this
    exact this
  unfold BX0_passYear_19 BX0_passYear_52
  simp only [lt_e, hx1.2.2.2.1, rb_e0, rb_e1]
  by_cases c : fe ≤ nI (dN (dz z) % 100)
  · rw [if_pos c, if_pos trivial]
    exact no (fun q => absurd c (Int32.not_le.mpr q.1))
  · rw [if_neg c, if_neg (by decide), p_hasRoom hx1.y.1 h14]
    by_cases c14 : n < 14
    · rw [bI_t c14, if_neg (by decide)]
      refine p_bring (hs1.sI _ _ _) hl hb hx1.y c14 (fun q => ?_) (fun q0 q1 S3 hx3 hd3 => ?_)
      · rw [if_pos rfl]; exact no (fun u => q u.2.2)
      · rw [if_neg (by decide)]
        have cc : nI (dN (dz z) % 100) < fe ∧ n < 14 ∧ 0 < cnt (f 3) 0 n ∧ 0 < cnt (f 3) 1 n := ⟨Int32.not_le.mp c, c14, q0, q1⟩
        have := h S3 (by unfold yN yF yZ; rw [if_pos cc, if_pos cc, if_pos cc]; exact hx3) (hd2.tr hd3)
        unfold yN at this
        rw [if_pos cc, if_neg (by omega)] at this
        exact this
    · rw [bI_f c14, if_pos rfl]
      exact no (fun q => c14 q.2.1)
theorem p_mend {ln : Nat → Nat} {S : HC} {n : Nat} {f : Nat → Nat → Int32} {fe ye z : Int32} {post : HC → Prop} (hs : SH S) (hl : LN ln) (hx : MA S n f fe ye z) (h : post (sI S 69 2 (ye + 1))) : BX8_year_121 ln post S 68 := by
  unfold BX8_year_121
  rw [sh68_0 hs, dn_e, ln69 hl, show (2 : Int32) = nI 2 from rfl, al_e (by decide) (by decide), lt_e, as_e (by decide) (by decide), hx.2.2.2.1]
  exact h
theorem p_year {ln : Nat → Nat} {S : HC} {n : Nat} {f : Nat → Nat → Int32} {fe ye z : Int32} {post : HC → Prop} (hs : SH S) (hl : LN ln) (hx : MA S n f fe ye z) (h14 : n ≤ 14) (h : ∀ S', MA S' (yN n f fe z) (yF n f fe z) fe (ye + 1) (yZ n f fe z) → MS S S' → post S') : wpX8_year ln S 68 post := by
  unfold wpX8_year
  refine d_M hs hl hx (fun S1 hs1 hx1 hd1 => ?_)
  rw [ne_e (by decide), lt_e, show (100 : Int32) = nI 100 from rfl, drem _ (by decide) (by decide), sh68_0 hs1, dn_e, ln69 hl, show (3 : Int32) = nI 3 from rfl, al_e (by decide) (by decide), hx1.2.2.1]
  have l0 := cnt_le (f 3) 0 n
  have l1 := cnt_le (f 3) 1 n
  have no : ¬ (nI (dN (dz z) % 100) < fe ∧ n < 14 ∧ 0 < cnt (f 3) 0 n ∧ 0 < cnt (f 3) 1 n) → BX8_year_121 ln post S1 68 := by
    intro q
    refine p_mend hs1 hl hx1 (h _ ?_ (hd1.tr (MS.fld (by decide))))
    unfold yN yF yZ
    rw [if_neg q, if_neg q, if_neg q]
    exact hx1.y
  unfold BX8_year_21
  by_cases c : fe ≤ nI (dN (dz z) % 100)
  · rw [if_pos c]
    refine p_manyOf hs1 hl hx1.1 h14 hx1.g (p_manyOf hs1 hl hx1.1 h14 hx1.g ?_)
    rw [if_pos rfl]
    exact no (fun q => absurd c (Int32.not_le.mpr q.1))
  · rw [if_neg c]
    refine p_manyOf hs1 hl hx1.1 h14 hx1.g (p_manyOf hs1 hl hx1.1 h14 hx1.g ?_)
    rw [if_neg (by decide), sh68_0 hs1, dn_e, ln69 hl, al_l1 (by decide) (by decide), hx1.1]
    by_cases c14 : n < 14
    · rw [if_neg (show ¬ (14 : Int32) ≤ nI n from nI_ge (b := 14) c14 (by decide))]
      by_cases c0 : 0 < cnt (f 3) 0 n
      · rw [if_neg (show ¬ nI (cnt (f 3) 0 n) ≤ 0 from nI_nle c0 (by omega))]
        by_cases c1 : 0 < cnt (f 3) 1 n
        · rw [if_neg (show ¬ nI (cnt (f 3) 1 n) ≤ 0 from nI_nle c1 (by omega))]
          refine d_M hs1 hl hx1 (fun S2 hs2 hx2 hd2 => ?_)
          rw [ne_e (nI_ne0 c0 (by omega)), lt_e, drem _ c0 (by omega)]
          refine p_numberOf hs2 hl h14 hx2.g (Nat.mod_lt _ c0) ?_
          refine d_M hs2 hl hx2 (fun S3 hs3 hx3 hd3 => ?_)
          rw [ne_e (nI_ne0 c1 (by omega)), lt_e, drem _ c1 (by omega)]
          refine p_numberOf hs3 hl h14 hx3.g (Nat.mod_lt _ c1) ?_
          refine d_M hs3 hl hx3 (fun S4 hs4 hx4 hd4 => ?_)
          rw [ne_e (by decide), lt_e, show (2 : Int32) = nI 2 from rfl, drem _ (by decide) (by decide)]
          refine d_M hs4 hl hx4 (fun S5 hs5 hx5 hd5 => ?_)
          rw [ne_e (by decide), lt_e, show (6 : Int32) = nI 6 from rfl, drem _ (by decide) (by decide)]
          refine d_M hs5 hl hx5 (fun S6 hs6 hx6 hd6 => ?_)
          rw [ne_e (by decide), lt_e, show (8 : Int32) = nI 8 from rfl, drem _ (by decide) (by decide), p_comes hs6 hl hx6.1 c14]
          have cc : nI (dN (dz z) % 100) < fe ∧ n < 14 ∧ 0 < cnt (f 3) 0 n ∧ 0 < cnt (f 3) 1 n := ⟨Int32.not_le.mp c, c14, c0, c1⟩
          refine p_mend hs6 hl hx6.add (h _ ?_ ((((((hd1.tr hd2).tr hd3).tr hd4).tr hd5).tr hd6).tr (MS.tr ⟨fun r k q => madd_o (by omega), fun k q => madd_o (by omega), fun _ _ => rfl⟩ (MS.fld (by decide)))))
          unfold yN yF yZ
          rw [if_pos cc, if_pos cc, if_pos cc]
          exact hx6.add.y
        · rw [if_pos (show nI (cnt (f 3) 1 n) ≤ 0 from nI_le (b := 0) (by omega) (by decide))]
          exact no (fun q => c1 q.2.2.2)
      · rw [if_pos (show nI (cnt (f 3) 0 n) ≤ 0 from nI_le (b := 0) (by omega) (by decide))]
        exact no (fun q => c0 q.2.2.1)
    · rw [if_pos (show (14 : Int32) ≤ nI n from nI_le (a := 14) (by omega) (by omega))]
      exact no (fun q => c14 q.2.1)
