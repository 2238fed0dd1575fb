/-! steps: a row read against the people, poured over them -/
def rdV (g f4 : Nat → Int32) (n : Nat) : Nat → Nat → Int32
  | 0, _ => -1000000005
  | m + 1, i => if g i = -1000000005 then rdV g f4 n m (i + 1) else if i < n then (if g i = f4 i then rdV g f4 n m (i + 1) else nI i) else nI i
theorem p_reads {ln : Nat → Nat} {S : HC} {n l i : Nat} {g f4 : Nat → Int32} (hs : SH S) (hl : LN ln) (hi : i < 4) (h14 : n ≤ 14) (l1 : l ≤ 24) (hn : hI S 1 6 = nI n) (l2 : hI S (45 + 2 * i) 1 = nI l) (b3 : ∀ j, j < 24 → hI S (46 + 2 * i) j = g j) (ef : ∀ j, j < n → hI S 6 j = f4 j) : ∀ (post : Int32 → HC → Prop) (m j : Nat), j + m = l → post (rdV g f4 n m j) S → LX7_reads_29 ln post (m + 1) S 0 (45 + 2 * i) (nI j) := by
  intro post m
  induction m with
  | zero =>
    intro j hj hp
    rw [rdV] at hp
    rw [LX7_reads_29]
    dsimp only
    rw [lt_e, l2, if_pos (nI_le (by omega) (by omega))]
    exact hp
  | succ m ih =>
    intro j hj hp
    rw [rdV] at hp
    rw [LX7_reads_29]
    dsimp only
    unfold BX7_reads_76 BX7_reads_74
    rw [lt_e, l2, if_neg (nI_ge (by omega) (by omega)), p_isNumber l2 l1 (rw_o hs hi).2 (rw_n hl hi) (by omega), b3 j (by omega), lt_e, nI_1]
    by_cases e1 : g j = -1000000005
    · rw [if_pos e1] at hp
      rw [bI_f (fun u => u.2 e1), if_pos rfl]
      exact ih (j + 1) (by omega) hp
    rw [if_neg e1] at hp
    rw [bI_t ⟨by omega, e1⟩, if_neg (by decide), sh0_0 hs, dn_e, p_has]
    by_cases e2 : j < n
    · rw [if_pos e2] at hp
      rw [hasT hn h14 e2, if_neg (by decide), (rw_o hs hi).2, dn_e, rw_n hl hi, al_e (by omega) (by decide), b3 j (by omega), sh0_0 hs, dn_e, sh1_4 hs, dn_e, ln6 hl, al_e (by omega) (by decide), ef j e2]
      by_cases e3 : g j = f4 j
      · rw [if_pos e3] at hp
        rw [if_pos e3, lt_e]
        exact ih (j + 1) (by omega) hp
      · rw [if_neg e3] at hp
        rw [if_neg e3]
        exact hp
    · rw [if_neg e2] at hp
      rw [hasF hn (Or.inr (nI_le (by omega) (by omega))), if_pos rfl]
      exact hp
theorem p_mreads {ln : Nat → Nat} {S : HC} {n l i : Nat} {g f4 : Nat → Int32} (hs : SH S) (hl : LN ln) (hi : i < 4) (h14 : n ≤ 14) (l1 : l ≤ 24) (hn : hI S 69 1 = nI n) (l3 : hI S 83 i = nI l) (b3 : ∀ j, j < 24 → hI S 84 (24 * i + j) = g j) (ef : ∀ j, j < n → mf S 69 4 j = f4 j) : ∀ (post : Int32 → HC → Prop) (m j : Nat), j + m = l → post (rdV g f4 n m j) S → LX8_reads_24 ln post (m + 1) S 68 (nI i) (nI j) := by
  intro post m
  induction m with
  | zero =>
    intro j hj hp
    rw [rdV] at hp
    rw [LX8_reads_24]
    dsimp only
    rw [sh68_25 hs, dn_e, ln83 hl, al_e hi (by decide), l3, if_pos (nI_le (by omega) (by omega))]
    exact hp
  | succ m ih =>
    intro j hj hp
    rw [rdV] at hp
    rw [LX8_reads_24]
    dsimp only
    unfold BX8_reads_72 BX8_reads_70
    rw [sh68_25 hs, dn_e, ln83 hl, al_e hi (by decide), l3, if_neg (nI_ge (by omega) (by omega)), sh68_26 hs, dn_e]
    simp only [lt_e]
    rw [show (24 : Int32) * nI i = nI (24 * i) from pk_mul 24 i, nI_add, ln84 hl, al_e (by omega) (by decide), b3 j (by omega), nI_1]
    by_cases e1 : g j = -1000000005
    · rw [if_pos e1] at hp
      rw [if_pos e1]
      exact ih (j + 1) (by omega) hp
    rw [if_neg e1] at hp
    rw [if_neg e1, p_isOne hs hl]
    by_cases e2 : j < n
    · rw [if_pos e2] at hp
      rw [oneT hn h14 e2, if_neg (by decide), p_of4 hs hl (by omega), ef j e2]
      by_cases e3 : g j = f4 j
      · rw [if_pos e3] at hp
        rw [if_pos e3]
        exact ih (j + 1) (by omega) hp
      · rw [if_neg e3] at hp
        rw [if_neg e3]
        exact hp
    · rw [if_neg e2] at hp
      rw [oneF hn h14 (Or.inr (nI_le (by omega) (by omega))), if_pos rfl]
      exact hp
theorem s_reads {N : Nat} {ln : Nat → Nat} {S : HC} (h : PI N ln S) (a1 : Int32) : wpX7_reads ln S 0 a1 fun v S => wpX8_reads ln S 68 a1 fun w S => OK N ln v w S := by
  obtain ⟨⟨hs, hl, -, -⟩, ⟨⟨n, hn⟩, -⟩, -, -, hr, -⟩ := id h
  have h14 := hn.1
  unfold wpX7_reads
  rw [p_isSheet]
  by_cases c : 0 ≤ a1 ∧ a1 < 4
  · obtain ⟨i, hi, rfl⟩ := ge_of (n := 4) (by decide) c
    obtain ⟨⟨b1, b2⟩, ⟨l, l1, l2, l3⟩, b3⟩ := hr i hi
    rw [bI_t c, if_neg (by decide), sh0_6 hs, dn_e, ln41 hl, al_e hi (by decide), (rw_o hs hi).1, dn_e, p_isMissing, b1]
    by_cases c1 : hI S 82 i = -1
    · rw [bI_t c1, if_neg (by decide)]
      unfold wpX8_reads
      dsimp only
      rw [p_mSheet, shE, bI_t c, if_neg (by decide), sh68_24 hs, dn_e, ln82 hl, al_e hi (by decide), c1, if_neg (by decide)]
      exact ⟨rfl, h⟩
    rw [bI_f c1, if_pos rfl]
    have p0 : 0 ≤ hI S 82 i := by
      rcases b2 with e | e | e
      · exact absurd e c1
      · rw [e]; decide
      · rw [e]; decide
    have ef : ∀ j, j < n → hI S 6 j = mf S 69 4 j := fun j hj => hn.2.2.2.1 4 (by decide) j hj
    have k1 := fun post => p_reads (g := fun j => hI S 84 (24 * i + j)) (f4 := mf S 69 4) hs hl hi h14 l1 hn.2.1 l2 (fun j hj => (b3 j hj).1) (fun j hj => ef j hj) post l 0 (by omega)
    have k2 := fun post => p_mreads (g := fun j => hI S 84 (24 * i + j)) (f4 := mf S 69 4) hs hl hi h14 l1 hn.2.2.1 l3 (fun j hj => rfl) (fun j hj => rfl) post l 0 (by omega)
    generalize rdV (fun j => hI S 84 (24 * i + j)) (mf S 69 4) n l 0 = v0 at k1 k2
    refine ⟨l + 1, k1 _ ?_⟩
    unfold wpX8_reads
    dsimp only
    rw [p_mSheet, shE, bI_t c, if_neg (by decide), sh68_24 hs, dn_e, ln82 hl, al_e hi (by decide), if_pos p0]
    exact ⟨l + 1, k2 _ ⟨rfl, h⟩⟩
  · rw [bI_f c, if_pos rfl]
    unfold wpX8_reads
    dsimp only
    rw [p_mSheet, shE, bI_f c, if_pos rfl]
    exact ⟨rfl, h⟩
def cl7 (x : Int32) : Int32 := if x < 0 then 0 else if 7 < x then 7 else x
theorem cl7_ok (x : Int32) : ∃ c, c < 8 ∧ cl7 x = nI c := by
  unfold cl7
  split
  · exact ⟨0, by decide, rfl⟩
  · rename_i h1
    split
    · exact ⟨7, by decide, rfl⟩
    · rename_i h2
      obtain ⟨c, hc, e⟩ := nI_of2 (n := 7) (M := 7) (x := x) rfl h1 (Int32.not_lt.mp h2)
      exact ⟨c, by omega, e⟩
/-- the people behind the first i of a row's l places g -/
def pwF (g : Nat → Int32) (l : Nat) (f : Nat → Nat → Int32) (i : Nat) : Nat → Nat → Int32 := fun k j => if k = 4 ∧ j < i ∧ j < l ∧ ¬ g j = -1000000005 then cl7 (g j) else f k j
def pwC (g : Nat → Int32) (l : Nat) (f : Nat → Nat → Int32) : Nat → Nat
  | 0 => 0
  | i + 1 => pwC g l f i + (if i < l ∧ ¬ g i = -1000000005 ∧ ¬ cl7 (g i) = f 4 i then 1 else 0)
theorem pwC_ge {g : Nat → Int32} {l : Nat} {f : Nat → Nat → Int32} {i : Nat} (hi : l ≤ i) : ∀ m, pwC g l f (i + m) = pwC g l f i := by
  intro m
  induction m with
  | zero => rfl
  | succ m ih => rw [show i + (m + 1) = i + m + 1 by omega, pwC, if_neg (by omega), ih, Nat.add_zero]
theorem XA.to {S : HC} {b n : Nat} {f f' : Nat → Nat → Int32} {fe ye z : Int32} (h : XA S b n f fe ye z) (e : AG n f f') : XA S b n f' fe ye z := ⟨h.1, h.2.1.tr e, h.2.2⟩
theorem MA.to {S : HC} {n : Nat} {f f' : Nat → Nat → Int32} {fe ye z : Int32} (h : MA S n f fe ye z) (e : AG n f f') : MA S n f' fe ye z := ⟨h.1, h.2.1.tr e, h.2.2⟩
def set1 (f : Nat → Nat → Int32) (k j : Nat) (v : Int32) : Nat → Nat → Int32 := fun a b => if a = k ∧ b = j then v else f a b
theorem XA.pers {S : HC} {b n : Nat} {f : Nat → Nat → Int32} {fe ye z : Int32} (h : XA S b n f fe ye z) {k j : Nat} {v : Int32} (hk : k < 6) : XA (sI S (b + 1 + k) j v) b n (set1 f k j v) fe ye z := by
  obtain ⟨x1, x2, x3, x4, x5⟩ := h
  refine ⟨by rw [hI_row (by omega)]; exact x1, fun a ha c hc => ?_, by rw [hI_row (by omega)]; exact x3, by rw [hI_row (by omega)]; exact x4, by rw [hI_row (by omega)]; exact x5⟩
  unfold set1 xf
  by_cases e : a = k ∧ c = j
  · rw [if_pos e, e.1, e.2, hI_self]
  · rw [if_neg e, hI_ne (by omega)]; exact x2 a ha c hc
theorem MA.pers {S : HC} {n : Nat} {f : Nat → Nat → Int32} {fe ye z : Int32} (h : MA S n f fe ye z) {k j : Nat} {v : Int32} (hk : k < 6) : MA (sI S 69 (5 + 6 * j + k) v) n (set1 f k j v) fe ye z := by
  obtain ⟨x1, x2, x3, x4, x5⟩ := h
  refine ⟨by rw [hI_ne (by omega)]; exact x1, fun a ha c hc => ?_, by rw [hI_ne (by omega)]; exact x3, by rw [hI_ne (by omega)]; exact x4, by rw [hI_ne (by omega)]; exact x5⟩
  unfold set1 mf
  by_cases e : a = k ∧ c = j
  · rw [if_pos e, e.1, e.2, hI_self]
  · rw [if_neg e, hI_ne (by omega)]; exact x2 a ha c hc
theorem pwF_no {g : Nat → Int32} {l : Nat} {f : Nat → Nat → Int32} {i n : Nat} (h : ¬ (i < l ∧ ¬ g i = -1000000005) ∨ cl7 (g i) = f 4 i) : AG n (pwF g l f i) (pwF g l f (i + 1)) := by
  intro k hk j hj
  unfold pwF
  by_cases e : k = 4 ∧ j < i ∧ j < l ∧ ¬ g j = -1000000005
  · rw [if_pos e, if_pos ⟨e.1, by omega, e.2.2⟩]
  · rw [if_neg e]
    by_cases e2 : k = 4 ∧ j < i + 1 ∧ j < l ∧ ¬ g j = -1000000005
    · rw [if_pos e2]
      have ej : j = i := by
        rcases (show j < i ∨ j = i by omega) with q | q
        · exact absurd ⟨e2.1, q, e2.2.2⟩ e
        · exact q
      subst ej
      rcases h with q | q
      · exact absurd e2.2.2 q
      · rw [q, e2.1]
    · rw [if_neg e2]
theorem pwF_at {g : Nat → Int32} {l : Nat} {f : Nat → Nat → Int32} {i : Nat} : pwF g l f i 4 i = f 4 i := by
  unfold pwF
  rw [if_neg (by omega)]
theorem pwF_yes {g : Nat → Int32} {l : Nat} {f : Nat → Nat → Int32} {i n : Nat} (h1 : i < l) (h2 : ¬ g i = -1000000005) : AG n (set1 (pwF g l f i) 4 i (cl7 (g i))) (pwF g l f (i + 1)) := by
  intro k hk j hj
  unfold set1 pwF
  by_cases e : k = 4 ∧ j = i
  · rw [if_pos e, if_pos ⟨e.1, by omega, by omega, by rw [e.2]; exact h2⟩, e.2]
  · rw [if_neg e]
    by_cases e2 : k = 4 ∧ j < i ∧ j < l ∧ ¬ g j = -1000000005
    · rw [if_pos e2, if_pos ⟨e2.1, by omega, e2.2.2⟩]
    · rw [if_neg e2, if_neg]
      rintro ⟨q1, q2, q3, q4⟩
      rcases (show j < i ∨ j = i by omega) with q | q
      · exact e2 ⟨q1, q, q3, q4⟩
      · exact e ⟨q1, q⟩
theorem pwF_ge {g : Nat → Int32} {l : Nat} {f : Nat → Nat → Int32} {i n : Nat} (h : l ≤ i) (hn : i ≤ n) : AG n (pwF g l f i) (pwF g l f n) := by
  intro k hk j hj
  unfold pwF
  by_cases e : k = 4 ∧ j < i ∧ j < l ∧ ¬ g j = -1000000005
  · rw [if_pos e, if_pos ⟨e.1, by omega, e.2.2⟩]
  · rw [if_neg e, if_neg]
    rintro ⟨q1, q2, q3, q4⟩
    exact e ⟨q1, by omega, q3, q4⟩
theorem pwF_ok {g : Nat → Int32} {l : Nat} {f : Nat → Nat → Int32} {i n : Nat} (h : VP n f) : VP n (pwF g l f i) := by
  intro k j hk hj
  unfold pwF
  by_cases e : k = 4 ∧ j < i ∧ j < l ∧ ¬ g j = -1000000005
  · rw [if_pos e]
    exact ⟨by omega, by omega, by omega, fun _ => cl7_ok _, by omega⟩
  · rw [if_neg e]; exact h k j hk hj
theorem s_pour {N : Nat} {ln : Nat → Nat} {S : HC} (h : PI N ln S) (a1 : Int32) : wpX7_pour ln S 0 a1 fun v S => wpX8_pour ln S 68 a1 fun w S => OK N ln v w S := by
  obtain ⟨⟨hs, hl, -, -⟩, ⟨⟨n, hn⟩, -⟩, -, -, hr, -⟩ := id h
  have h14 := hn.1
  unfold wpX7_pour
  rw [p_isSheet]
  by_cases c : 0 ≤ a1 ∧ a1 < 4
  · obtain ⟨i, hi, rfl⟩ := ge_of (n := 4) (by decide) c
    obtain ⟨⟨b1, b2⟩, ⟨l, l1, l2, l3⟩, b3⟩ := hr i hi
    rw [bI_t c, if_neg (by decide), sh0_6 hs, dn_e, ln41 hl, al_e hi (by decide), (rw_o hs hi).1, dn_e, p_isMissing, b1]
    by_cases c1 : hI S 82 i = -1
    · rw [bI_t c1, if_neg (by decide)]
      unfold wpX8_pour
      dsimp only
      rw [p_mSheet, shE, bI_t c, if_neg (by decide), sh68_24 hs, dn_e, ln82 hl, al_e hi (by decide), c1, if_neg (by decide)]
      exact ⟨rfl, h⟩
    rw [bI_f c1, if_pos rfl]
    have p0 : 0 ≤ hI S 82 i := by
      rcases b2 with e | e | e
      · exact absurd e c1
      · rw [e]; decide
      · rw [e]; decide
    obtain ⟨f, fe, ye, z, x1, x2, x3, x4, x5⟩ := hn.out
    generalize hg : (fun j => hI S 84 (24 * i + j)) = g
    have hgj : ∀ j, hI S 84 (24 * i + j) = g j := fun j => by rw [← hg]
    have kx : ∀ (post : Int32 → HC → Prop), (∀ S', XA S' 1 n (pwF g l f n) fe ye z → XS 1 S S' → post (nI (pwC g l f n)) S') → ∀ m j S', j + m = n → XA S' 1 n (pwF g l f j) fe ye z → XS 1 S S' → LX7_pour_32 ln post (m + 1) S' 0 (45 + 2 * i) (nI (pwC g l f j)) (nI j) := by
      intro post hp m
      induction m with
      | zero =>
        intro j S' hj hx hd
        rw [LX7_pour_32]
        dsimp only
        rw [sh0_0 (hd.sh hs), dn_e, lt_e, hx.1, if_pos (nI_le (by omega) (by omega))]
        have ej : j = n := by omega
        rw [ej] at hx ⊢
        exact hp S' hx hd
      | succ m ih =>
        intro j S' hj hx hd
        have hs' := hd.sh hs
        rw [LX7_pour_32]
        dsimp only
        unfold BX7_pour_98
        rw [sh0_0 hs', dn_e, lt_e, hx.1, if_neg (nI_ge (by omega) (by omega)), p_isNumber (l := l) (by rw [hd.1 _ _ (by omega)]; exact l2) l1 (rw_o hs' hi).2 (rw_n hl hi) (by omega), hd.1 _ _ (by omega), (b3 j (by omega)).1, hgj j]
        simp only [lt_e]
        rw [nI_1, nI_1]
        by_cases e1 : j < l ∧ ¬ g j = -1000000005
        · rw [bI_t e1, if_neg (by decide), (rw_o hs' hi).2, dn_e, rw_n hl hi, al_e (by omega) (by decide), hd.1 _ _ (by omega), (b3 j (by omega)).1, hgj j, p_xwithin (by decide), sh0_0 hs', dn_e, sh1_4 hs', dn_e, ln6 hl, al_e (by omega) (by decide), show hI S' 6 j = f 4 j from (hx.2.1 4 (by decide) j (by omega)).trans pwF_at]
          rw [show (if g j < 0 then (0 : Int32) else if 7 < g j then 7 else g j) = cl7 (g j) from rfl]
          by_cases e2 : cl7 (g j) = f 4 j
          · rw [if_pos e2]
            have k := ih (j + 1) S' (by omega) (hx.to (pwF_no (Or.inr e2))) hd
            rw [pwC, if_neg (fun u => u.2.2 e2), Nat.add_zero] at k
            exact k
          · rw [if_neg e2, dn_e, sh1_4 hs', dn_e, ln6 hl, as_e (by omega) (by decide)]
            have k := ih (j + 1) (sI S' 6 j (cl7 (g j))) (by omega) ((hx.pers (k := 4) (by decide)).to (pwF_yes e1.1 e1.2)) (hd.tr ⟨fun r k q => hI_row (by omega), hI_row (by decide), fun _ _ => rfl⟩)
            rw [pwC, if_pos ⟨e1.1, e1.2, e2⟩] at k
            exact k
        · rw [bI_f e1, if_pos rfl]
          have k := ih (j + 1) S' (by omega) (hx.to (pwF_no (Or.inl e1))) hd
          rw [pwC, if_neg (fun u => e1 ⟨u.1, u.2.1⟩), Nat.add_zero] at k
          exact k
    refine ⟨n + 1, kx _ (fun S1 hx1 hd1 => ?_) n 0 S (by omega) (x1.to (fun k _ j _ => by unfold pwF; rw [if_neg (by omega)])) (XS.rf _ _)⟩
    have hs1 := hd1.sh hs
    have m1 : MA S1 n f fe ye z := x2.ag h14 (fun k _ => hd1.1 _ _ (by omega))
    have r1 : ∀ r k, 82 ≤ r → hI S1 r k = hI S r k := fun r k q => hd1.1 _ _ (by omega)
    have km : ∀ (post : Int32 → HC → Prop), (∀ S', MA S' n (pwF g l f n) fe ye z → MS S1 S' → post (nI (pwC g l f n)) S') → ∀ m j S', j + m = n → MA S' n (pwF g l f j) fe ye z → MS S1 S' → LX8_pour_26 ln post (m + 1) S' 68 (nI i) (nI (pwC g l f j)) (nI j) := by
      intro post hp m
      induction m with
      | zero =>
        intro j S' hj hx hd
        have hs' := hd.sh hs1
        have ej : j = n := by omega
        subst ej
        rw [LX8_pour_26]
        dsimp only
        unfold BX8_pour_118
        rw [sh68_25 hs', dn_e, ln83 hl, al_e hi (by decide), hd.1 _ _ (by decide), r1 _ _ (by decide), l3]
        by_cases e0 : l ≤ j
        · rw [if_pos (nI_le (by omega) (by omega))]; exact hp S' hx hd
        · rw [if_neg (nI_ge (by omega) (by omega)), sh68_0 hs', dn_e, ln69 hl, al_l1 (by decide) (by decide), hx.1, if_pos (nI_le (by omega) (by omega))]; exact hp S' hx hd
      | succ m ih =>
        intro j S' hj hx hd
        have hs' := hd.sh hs1
        rw [LX8_pour_26]
        dsimp only
        unfold BX8_pour_118 BX8_pour_83 BX8_pour_110
        rw [sh68_25 hs', dn_e, ln83 hl, al_e hi (by decide), hd.1 _ _ (by decide), r1 _ _ (by decide), l3]
        by_cases e0 : l ≤ j
        · rw [if_pos (nI_le (by omega) (by omega))]
          have k := hp S' (hx.to (pwF_ge e0 (by omega))) hd
          rw [show n = j + (m + 1) by omega, pwC_ge e0] at k
          exact k
        rw [if_neg (nI_ge (by omega) (by omega)), sh68_0 hs', dn_e, ln69 hl, al_l1 (by decide) (by decide), hx.1, if_neg (nI_ge (by omega) (by omega)), sh68_26 hs', dn_e]
        simp only [lt_e]
        rw [show (24 : Int32) * nI i = nI (24 * i) from pk_mul 24 i, nI_add, ln84 hl, al_e (by omega) (by decide), hd.1 _ _ (by decide), r1 _ _ (by decide), hgj j, p_of4 hs' hl (by omega), hx.2.1 4 (by decide) j (by omega), pwF_at, p_mwithin, show (6 : Int32) * nI j = nI (6 * j) from pk_mul 6 j, show (5 : Int32) + nI (6 * j) = nI (5 + 6 * j) from nI_add 5 (6 * j), show nI (5 + 6 * j) + (4 : Int32) = nI (5 + 6 * j + 4) from nI_add _ 4, p_becomes hs' hl (by omega), p_becomes hs' hl (by omega), show hI S' 69 (5 + 6 * j + 4) = f 4 j from (hx.2.1 4 (by decide) j (by omega)).trans pwF_at, nI_1, nI_1, show nI (pwC g l f j) + 0 = nI (pwC g l f j + 0) from nI_add _ 0, Nat.add_zero]
        rw [show (if g j < 0 then (0 : Int32) else if 7 < g j then 7 else g j) = cl7 (g j) from rfl]
        by_cases e1 : g j = -1000000005
        · rw [if_pos e1, if_pos rfl]
          have k := ih (j + 1) (sI S' 69 (5 + 6 * j + 4) (f 4 j)) (by omega) (((hx.pers (k := 4) (by decide)).to (fun a _ c _ => by
            unfold set1
            by_cases u : a = 4 ∧ c = j
            · rw [if_pos u, u.1, u.2, pwF_at]
            · rw [if_neg u])).to (pwF_no (Or.inl (fun u => u.2 e1)))) (hd.tr (MS.fld (by omega)))
          rw [pwC, if_neg (fun u => u.2.1 e1), Nat.add_zero] at k
          exact k
        · rw [if_neg e1]
          have k := ih (j + 1) (sI S' 69 (5 + 6 * j + 4) (cl7 (g j))) (by omega) ((hx.pers (k := 4) (by decide)).to (pwF_yes (by omega) e1)) (hd.tr (MS.fld (by omega)))
          by_cases e2 : cl7 (g j) = f 4 j
          · rw [if_pos e2.symm]
            rw [pwC, if_neg (fun u => u.2.2 e2), Nat.add_zero] at k
            exact k
          · rw [if_neg (fun u => e2 u.symm)]
            rw [pwC, if_pos ⟨by omega, e1, e2⟩] at k
            exact k
    unfold wpX8_pour
    dsimp only
    rw [p_mSheet, shE, bI_t c, if_neg (by decide), sh68_24 hs1, dn_e, ln82 hl, al_e hi (by decide), r1 _ _ (by decide), if_pos p0]
    exact ⟨n + 1, km _ (fun S2 hx2 hd2 => ⟨rfl, h.both hd1 hd2 (LR.of h14 (hx1.ag (fun r k q1 q2 => hd2.1 r k (by omega))) hx2 (pwF_ok x3) x4 x5)⟩) n 0 S1 (by omega) (m1.to (fun k _ j _ => by unfold pwF; rw [if_neg (by omega)])) (MS.rf _)⟩
  · rw [bI_f c, if_pos rfl]
    unfold wpX8_pour
    dsimp only
    rw [p_mSheet, shE, bI_f c, if_pos rfl]
    exact ⟨rfl, h⟩
