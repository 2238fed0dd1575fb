/-! draws, counts, years -/
def dz (z : Int32) : Int32 := z * 1103515245 + 12345
def dv (z : Int32) : Int32 := (z.toUInt32 >>> ((8 : Int32).toUInt32 &&& Int32.toUInt32 31)).toInt32
def dN (z : Int32) : Nat := z.toBitVec.toNat / 256
theorem dN_lt (z : Int32) : dN z < 16777216 := by
  have := z.toBitVec.isLt
  unfold dN
  omega
theorem dv_e (z : Int32) : dv z = nI (dN z) := by
  have h := pk_ushr z 8 8 (by decide)
  have h2 := dN_lt z
  apply Int32.toBitVec_inj.mp
  apply BitVec.eq_of_toNat_eq
  rw [pk_tn (by omega)]
  exact h
theorem rem_e {a c : Nat} (ha : a < 2 ^ 31) (h0 : 0 < c) (hc : c < 2 ^ 31) : nI a - nI a / nI c * nI c = nI (a % c) := pk_rem ha h0 hc
theorem drem (z : Int32) {c : Nat} (h0 : 0 < c) (hc : c < 2 ^ 31) : dv z - dv z / nI c * nI c = nI (dN z % c) := by
  rw [dv_e]; exact rem_e (by have := dN_lt z; omega) h0 hc
theorem p_draw {ln : Nat → Nat} {S : HC} {b : Nat} {post : Int32 → HC → Prop} : wpX0_draw ln S b post = post (dv (dz (hI S b 9))) (sI S b 9 (dz (hI S b 9))) := by
  unfold wpX0_draw
  simp only [lt_e, hI_self]
  rfl
theorem p_mdraw {ln : Nat → Nat} {S : HC} {post : Int32 → HC → Prop} (hs : SH S) (hl : LN ln) : wpX8_draw ln S 68 post = post (dv (dz (hI S 69 0))) (sI S 69 0 (dz (hI S 69 0))) := by
  unfold wpX8_draw
  simp only [show (0 : Int32) = nI 0 from rfl, lt_e, hR_sI, sh68_0 hs, dn_e, ln69 hl, al_e (i := 0) (n := 1461) (by decide) (by decide), as_e (i := 0) (n := 1461) (by decide) (by decide), hI_self]
  rfl
def cnt (g : Nat → Int32) (sx : Int32) : Nat → Nat
  | 0 => 0
  | n + 1 => cnt g sx n + (if g n = sx then 1 else 0)
theorem cnt_le (g : Nat → Int32) (sx : Int32) (n : Nat) : cnt g sx n ≤ n := by
  induction n with
  | zero => exact Nat.le_refl 0
  | succ n ih => simp only [cnt]; split <;> omega
theorem cnt_mono (g : Nat → Int32) (sx : Int32) {i n : Nat} (h : i ≤ n) : cnt g sx i ≤ cnt g sx n := by
  induction n with
  | zero => rw [show i = 0 by omega]; exact Nat.le_refl _
  | succ n ih =>
    by_cases e : i = n + 1
    · rw [e]; exact Nat.le_refl _
    · have := ih (by omega)
      simp only [cnt]; omega
theorem cnt_ag {g e : Nat → Int32} {sx : Int32} {n : Nat} (h : ∀ j, j < n → g j = e j) : cnt g sx n = cnt e sx n := by
  induction n with
  | zero => rfl
  | succ n ih => simp only [cnt]; rw [ih (fun j hj => h j (by omega)), h n (by omega)]
def nth (g : Nat → Int32) (sx : Int32) (k : Nat) : Nat → Nat
  | 0 => 0
  | n + 1 => if g n = sx ∧ cnt g sx n = k then n else nth g sx k n
theorem nth_ok {g : Nat → Int32} {sx : Int32} {k n : Nat} (h : k < cnt g sx n) : nth g sx k n < n ∧ g (nth g sx k n) = sx ∧ cnt g sx (nth g sx k n) = k := by
  induction n with
  | zero => simp [cnt] at h
  | succ n ih =>
    simp only [nth]
    by_cases e : g n = sx ∧ cnt g sx n = k
    · rw [if_pos e]; exact ⟨by omega, e.1, e.2⟩
    · rw [if_neg e]
      simp only [cnt] at h
      have h2 : k < cnt g sx n := by
        by_cases e1 : g n = sx
        · rw [if_pos e1] at h
          have : cnt g sx n ≠ k := fun q => e ⟨e1, q⟩
          omega
        · rw [if_neg e1] at h; omega
      obtain ⟨q1, q2, q3⟩ := ih h2
      exact ⟨by omega, q2, q3⟩
theorem nth_ag {g e : Nat → Int32} {sx : Int32} {k n : Nat} (h : ∀ j, j < n → g j = e j) : nth g sx k n = nth e sx k n := by
  induction n with
  | zero => rfl
  | succ n ih => simp only [nth]; rw [ih (fun j hj => h j (by omega)), h n (by omega), cnt_ag (fun j hj => h j (by omega))]
theorem p_howMany {ln : Nat → Nat} {S : HC} {b n : Nat} {g : Nat → Int32} {sx : Int32} {post : Int32 → HC → Prop} (hs : SH S) (hl : LN ln) (hb : LB b) (hn : hI S b 6 = nI n) (h14 : n ≤ 14) (hg : ∀ j, j < n → xf S b 3 j = g j) (h : post (nI (cnt g sx n)) S) : wpX0_howMany ln S b sx post := by
  have key : ∀ m i, i + m = n → LX0_howMany_4 ln post (m + 1) S b sx (nI (cnt g sx i)) (nI i) := by
    intro m
    induction m with
    | zero =>
      intro i hi
      rw [LX0_howMany_4]
      dsimp only
      rw [lt_e, hn, if_pos (nI_le (by omega) (by omega)), show i = n by omega]
      exact h
    | succ m ih =>
      intro i hi
      rw [LX0_howMany_4]
      dsimp only
      rw [lt_e, hn, if_neg (nI_ge (by omega) (by omega)), lb_r hs hb (i := 3) (by decide), dn_e, lb_n hl hb (i := 3) (by decide), al_e (by omega) (by decide)]
      have hi2 := ih (i + 1) (by omega)
      simp only [cnt] at hi2
      unfold BX0_howMany_25
      simp only [lt_e]
      have hgi : hI S (b + 1 + 3) i = g i := hg i (by omega)
      by_cases e : g i = sx
      · rw [if_pos e] at hi2
        rw [if_pos (hgi.trans e), show (1 : Int32) = nI 1 from rfl, nI_add, nI_add]; exact hi2
      · rw [if_neg e, Nat.add_zero] at hi2
        rw [if_neg (fun q => e (hgi.symm.trans q)), show (1 : Int32) = nI 1 from rfl, nI_add]; exact hi2
  exact ⟨n + 1, key n 0 (by omega)⟩
theorem p_manyOf {ln : Nat → Nat} {S : HC} {n : Nat} {g : Nat → Int32} {sx : Int32} {post : Int32 → HC → Prop} (hs : SH S) (hl : LN ln) (hn : hI S 69 1 = nI n) (h14 : n ≤ 14) (hg : ∀ j, j < n → mf S 69 3 j = g j) (h : post (nI (cnt g sx n)) S) : wpX8_manyOf ln S 68 sx post := by
  have key : ∀ m i, i + m = n → LX8_manyOf_4 ln post (m + 1) S 68 sx (nI (cnt g sx i)) (nI i) := by
    intro m
    induction m with
    | zero =>
      intro i hi
      rw [LX8_manyOf_4]
      dsimp only
      rw [sh68_0 hs, dn_e, ln69 hl, show (1 : Int32) = nI 1 from rfl, al_e (by decide) (by decide), hn, if_pos (nI_le (by omega) (by omega)), show i = n by omega]
      exact h
    | succ m ih =>
      intro i hi
      rw [LX8_manyOf_4]
      dsimp only
      have hi2 := ih (i + 1) (by omega)
      simp only [cnt] at hi2
      rw [sh68_0 hs, dn_e, ln69 hl, show (1 : Int32) = nI 1 from rfl, al_e (by decide) (by decide), hn, if_neg (nI_ge (by omega) (by omega)), p_of3 hs hl (by omega), hg i (by omega)]
      unfold BX8_manyOf_30
      simp only [lt_e]
      by_cases e : g i = sx
      · rw [if_pos e] at hi2 ⊢
        rw [nI_add, show (1 : Int32) = nI 1 from rfl, nI_add]; exact hi2
      · rw [if_neg e] at hi2 ⊢
        rw [show (0 : Int32) = nI 0 from rfl, nI_add, show (1 : Int32) = nI 1 from rfl, nI_add]; exact hi2
  exact ⟨n + 1, key n 0 (by omega)⟩
theorem p_nthOf {ln : Nat → Nat} {S : HC} {b n k : Nat} {g : Nat → Int32} {sx : Int32} {post : Int32 → HC → Prop} (hs : SH S) (hl : LN ln) (hb : LB b) (hn : hI S b 6 = nI n) (h14 : n ≤ 14) (hg : ∀ j, j < n → xf S b 3 j = g j) (hk : k < cnt g sx n) (h : post (nI (nth g sx k n)) S) : wpX0_nthOf ln S b sx (nI k) post := by
  obtain ⟨o1, o2, o3⟩ := nth_ok hk
  generalize nth g sx k n = q at h o1 o2 o3
  have key : ∀ m i, i + m = q → LX0_nthOf_5 ln post (m + 1) S b sx (nI (k - cnt g sx i)) (nI i) := by
    intro m
    induction m with
    | zero =>
      intro i hi
      have hiq : i = q := by omega
      subst hiq
      have hgi : hI S (b + 1 + 3) i = g i := hg i (by omega)
      rw [LX0_nthOf_5]
      dsimp only
      rw [lt_e, hn, if_neg (nI_ge (by omega) (by omega)), lb_r hs hb (i := 3) (by decide), dn_e, lb_n hl hb (i := 3) (by decide), al_e (by omega) (by decide), hgi, if_pos o2, o3, if_pos (show nI (k - k) = 0 by rw [Nat.sub_self]; rfl)]
      exact h
    | succ m ih =>
      intro i hi
      have c1 : cnt g sx (i + 1) ≤ k := by rw [← o3]; exact cnt_mono g sx (by omega)
      have hi2 := ih (i + 1) (by omega)
      simp only [cnt] at hi2 c1
      have hgi : hI S (b + 1 + 3) i = g i := hg i (by omega)
      rw [LX0_nthOf_5]
      dsimp only
      rw [lt_e, hn, if_neg (nI_ge (by omega) (by omega)), lb_r hs hb (i := 3) (by decide), dn_e, lb_n hl hb (i := 3) (by decide), al_e (by omega) (by decide), hgi]
      unfold BX0_nthOf_35
      simp only [lt_e]
      have hkn : k < n := by have := cnt_le g sx n; omega
      by_cases e : g i = sx
      · rw [if_pos e] at hi2 c1 ⊢
        rw [if_neg (show ¬ nI (k - cnt g sx i) = 0 from nI_ne0 (by omega) (by omega))]
        have e2 : nI (k - cnt g sx i) + -1 = nI (k - (cnt g sx i + 1)) := by
          rw [show k - cnt g sx i = (k - (cnt g sx i + 1)) + 1 by omega, pk_m1]
        rw [e2, show (1 : Int32) = nI 1 from rfl, nI_add]; exact hi2
      · rw [if_neg e, Nat.add_zero] at hi2
        rw [if_neg e, show (1 : Int32) = nI 1 from rfl, nI_add]; exact hi2
  exact ⟨q + 1, key q 0 (by omega)⟩
theorem p_numberOf {ln : Nat → Nat} {S : HC} {n k : Nat} {g : Nat → Int32} {sx : Int32} {post : Int32 → HC → Prop} (hs : SH S) (hl : LN ln) (h14 : n ≤ 14) (hg : ∀ j, j < n → mf S 69 3 j = g j) (hk : k < cnt g sx n) (h : post (nI (nth g sx k n)) S) : wpX8_numberOf ln S 68 sx (nI k) post := by
  obtain ⟨o1, o2, o3⟩ := nth_ok hk
  generalize nth g sx k n = q at h o1 o2 o3
  have key : ∀ m i, i + m = q → LX8_numberOf_5 ln post (m + 1) S 68 sx (nI (k - cnt g sx i)) (nI i) := by
    intro m
    induction m with
    | zero =>
      intro i hi
      have hiq : i = q := by omega
      subst hiq
      rw [LX8_numberOf_5]
      dsimp only
      rw [o3, Nat.sub_self, if_neg (by decide), p_of3 hs hl (by omega), hg i (by omega), if_pos o2]
      exact h
    | succ m ih =>
      intro i hi
      have c1 : cnt g sx (i + 1) ≤ k := by rw [← o3]; exact cnt_mono g sx (by omega)
      have hi2 := ih (i + 1) (by omega)
      simp only [cnt] at hi2 c1
      have hkn : k < n := by have := cnt_le g sx n; omega
      have body : BX8_numberOf_20 ln post (LX8_numberOf_5 ln post (m + 1)) S 68 sx (nI (k - cnt g sx i)) (nI i) := by
        unfold BX8_numberOf_20 BX8_numberOf_37
        simp only [lt_e, p_of3 hs hl (show i < 200 by omega), hg i (by omega)]
        by_cases e : g i = sx
        · rw [if_pos e] at hi2 c1 ⊢
          rw [show (1 : Int32) = nI 1 from rfl, pk_sub (by omega), nI_add, show k - cnt g sx i - 1 = k - (cnt g sx i + 1) by omega]; exact hi2
        · rw [if_neg e, Nat.add_zero] at hi2
          rw [if_neg e, show (0 : Int32) = nI 0 from rfl, pk_sub (by omega), show (1 : Int32) = nI 1 from rfl, nI_add, Nat.sub_zero]; exact hi2
      rw [LX8_numberOf_5]
      dsimp only
      by_cases e0 : k - cnt g sx i = 0
      · rw [e0, if_neg (by decide), p_of3 hs hl (by omega), hg i (by omega)]
        rw [e0] at body
        have e1 : ¬ g i = sx := fun q => by rw [if_pos q] at c1; omega
        rw [if_neg e1]; exact body
      · rw [if_pos (show 0 < nI (k - cnt g sx i) from nI_lt (a := 0) (by omega) (by omega))]; exact body
  exact ⟨q + 1, key q 0 (by omega)⟩
