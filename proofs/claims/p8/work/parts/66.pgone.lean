/-! step gone -/
theorem nI_and {a b : Nat} (ha : a < 2 ^ 32) (hb : b < 2 ^ 32) : nI a &&& nI b = nI (a &&& b) := by
  apply Int32.toBitVec_inj.mp
  apply BitVec.eq_of_toNat_eq
  have : a &&& b < 2 ^ 32 := Nat.lt_of_le_of_lt Nat.and_le_left ha
  rw [Int32.toBitVec_and, BitVec.toNat_and, pk_tn ha, pk_tn hb, pk_tn this]
/-- how many bits, by numbers -/
def nbc (n : Nat) : Nat := (fun a1 => (fun a2 => (fun a3 => (fun a4 => (a4 + a4 / 65536) &&& 63) (a3 + a3 / 256)) ((a2 + a2 / 16) &&& 252645135)) ((a1 &&& 858993459) + (a1 / 4 &&& 858993459))) (n - (n / 2 &&& 1431655765))
theorem us_N {n k : Nat} {s : Int32} (hn : n < 2 ^ 32) (hs : ((s.toUInt32 &&& Int32.toUInt32 31).toBitVec % 32).toNat = k) : us (nI n) s = nI (n / 2 ^ k) := pk_ushrN hn s k hs
theorem nbc_e {n : Nat} (h : n < 16384) : bc5 (bc4 (bc3 (bc2 (bc1 (nI n))))) = nI (nbc n) := by
  have l1 : n / 2 &&& 1431655765 ≤ n / 2 := Nat.and_le_left
  have e1 : bc1 (nI n) = nI (n - (n / 2 &&& 1431655765)) := by
    unfold bc1
    rw [us_N (k := 1) (by omega) (by decide), show (1431655765 : Int32) = nI 1431655765 from rfl, show 2 ^ 1 = 2 from rfl, nI_and (by omega) (by decide), pk_sub (by omega)]
  rw [e1]
  unfold nbc
  dsimp only
  generalize h1 : n - (n / 2 &&& 1431655765) = a1
  have b1 : a1 < 16384 := by omega
  have l2 : a1 &&& 858993459 ≤ a1 := Nat.and_le_left
  have l3 : a1 / 4 &&& 858993459 ≤ a1 / 4 := Nat.and_le_left
  have e2 : bc2 (nI a1) = nI ((a1 &&& 858993459) + (a1 / 4 &&& 858993459)) := by
    unfold bc2
    rw [us_N (k := 2) (by omega) (by decide), show (858993459 : Int32) = nI 858993459 from rfl, show 2 ^ 2 = 4 from rfl, nI_and (by omega) (by decide), nI_and (by omega) (by decide), nI_add]
  rw [e2]
  generalize h2 : (a1 &&& 858993459) + (a1 / 4 &&& 858993459) = a2
  have b2 : a2 < 32768 := by omega
  have l4 : (a2 + a2 / 16) &&& 252645135 ≤ a2 + a2 / 16 := Nat.and_le_left
  have e3 : bc3 (nI a2) = nI ((a2 + a2 / 16) &&& 252645135) := by
    unfold bc3
    rw [us_N (k := 4) (by omega) (by decide), show (252645135 : Int32) = nI 252645135 from rfl, show 2 ^ 4 = 16 from rfl, nI_add, nI_and (by omega) (by decide)]
  rw [e3]
  generalize h3 : (a2 + a2 / 16) &&& 252645135 = a3
  have b3 : a3 < 65536 := by omega
  have e4 : bc4 (nI a3) = nI (a3 + a3 / 256) := by
    unfold bc4
    rw [us_N (k := 8) (by omega) (by decide), show 2 ^ 8 = 256 from rfl, nI_add]
  rw [e4]
  unfold bc5
  rw [us_N (k := 16) (by omega) (by decide), show (63 : Int32) = nI 63 from rfl, show 2 ^ 16 = 65536 from rfl, nI_add, nI_and (by omega) (by decide)]
theorem nbc_h : ∀ a b : Fin 128, nbc (128 * a.val + b.val) = pcN (128 * a.val + b.val) 14 := by decide +kernel
theorem bc_h (a b : Fin 128) : bc5 (bc4 (bc3 (bc2 (bc1 (nI (128 * a.val + b.val)))))) = nI (pcN (128 * a.val + b.val) 14) := by
  rw [nbc_e (by omega), nbc_h]
theorem p_bitC14 {ln : Nat → Nat} {S : HC} {b : Nat} {post : Int32 → HC → Prop} (hb : b < 16384) : wpJ6_bitCount_0f7a4 ln S (nI b) post = post (nI (pcN b 14)) S := by
  have e := bc_h ⟨b / 128, by omega⟩ ⟨b % 128, by omega⟩
  dsimp only at e
  rw [show 128 * (b / 128) + b % 128 = b by omega] at e
  rw [← e]
  unfold wpJ6_bitCount_0f7a4 bc5 bc4 bc3 bc2 bc1 us
  simp only [lt_e]
theorem pcN_hi {x i : Nat} (hx : x < 2 ^ i) : ∀ j, pcN (x + 2 ^ i) j = pcN x j + (if i < j then 1 else 0) := by
  intro j
  induction j with
  | zero => rfl
  | succ j ih =>
    rw [pcN, pcN, ih]
    have e : (x + 2 ^ i) / 2 ^ j % 2 = (x / 2 ^ j % 2) + (if i = j then 1 else 0) := by
      rcases Nat.lt_trichotomy i j with q | q | q
      · rw [if_neg (by omega)]
        have h1 : 2 ^ (i + 1) ≤ 2 ^ j := Nat.pow_le_pow_right (by decide) (by omega)
        rw [Nat.pow_succ] at h1
        rw [Nat.div_eq_of_lt (by omega), Nat.div_eq_of_lt (by omega)]
      · subst q
        rw [if_pos rfl, Nat.div_eq_of_lt hx, Nat.add_div_right _ (Nat.two_pow_pos i), Nat.div_eq_of_lt hx]
      · rw [if_neg (by omega)]
        have e2 : 2 ^ i = 2 ^ j * (2 * 2 ^ (i - j - 1)) := by
          rw [← Nat.mul_assoc, Nat.mul_comm (2 ^ j) 2, ← Nat.pow_succ', ← Nat.pow_add]
          congr 1
          omega
        rw [e2, Nat.add_mul_div_left _ _ (Nat.two_pow_pos j)]
        omega
    rw [e]
    by_cases q : i < j
    · rw [if_pos q, if_neg (by omega), if_pos (by omega)]; omega
    · rw [if_neg q]
      by_cases q2 : i = j
      · rw [if_pos q2, if_pos (by omega)]; omega
      · rw [if_neg q2, if_neg (by omega)]; omega
/-- those who bear, as a number, and how many they are -/
def shM (f : Nat → Nat → Int32) (T : Nat → Int32) (ch : Nat) (w : Int32) : Nat → Nat
  | 0 => 0
  | i + 1 => if w ≤ shV f T ch i then shM f T ch w i + 2 ^ i else shM f T ch w i
def shC (f : Nat → Nat → Int32) (T : Nat → Int32) (ch : Nat) (w : Int32) : Nat → Nat
  | 0 => 0
  | i + 1 => shC f T ch w i + (if w ≤ shV f T ch i then 1 else 0)
theorem shM_lt {f : Nat → Nat → Int32} {T : Nat → Int32} {ch : Nat} {w : Int32} : ∀ i, shM f T ch w i < 2 ^ i := by
  intro i
  induction i with
  | zero => rw [shM]; decide
  | succ i ih =>
    rw [shM, Nat.pow_succ]
    split <;> omega
theorem shM_B {f : Nat → Nat → Int32} {T : Nat → Int32} {ch : Nat} {w : Int32} : ∀ i, i ≤ 14 → shB f T ch w i = nI (shM f T ch w i) := by
  intro i
  induction i with
  | zero => intro _; rfl
  | succ i ih =>
    intro hi
    rw [shB, shM, ih (by omega)]
    by_cases u : w ≤ shV f T ch i
    · rw [if_pos u, if_pos u]
      have lt := shM_lt (f := f) (T := T) (ch := ch) (w := w) i
      have p14 : 2 ^ i ≤ 2 ^ 13 := Nat.pow_le_pow_right (by decide) (by omega)
      rw [show (1 : Int32) = nI 1 from rfl, pk_shlN (n := 1) _ i (sh31 ⟨i, by omega⟩) (by omega), Nat.one_mul]
      apply Int32.toBitVec_inj.mp
      apply BitVec.eq_of_toNat_eq
      rw [Int32.toBitVec_or, BitVec.toNat_or, pk_tn (by omega), pk_tn (by omega), pk_tn (by omega), Nat.or_comm]
      have := Nat.shiftLeft_add_eq_or_of_lt lt 1
      rw [Nat.shiftLeft_eq, Nat.one_mul] at this
      rw [← this, Nat.add_comm]
    · rw [if_neg u, if_neg u]
theorem shM_C {f : Nat → Nat → Int32} {T : Nat → Int32} {ch : Nat} {w : Int32} : ∀ i, i ≤ 14 → pcN (shM f T ch w i) 14 = shC f T ch w i := by
  intro i
  induction i with
  | zero => intro _; rw [shM, shC]; decide
  | succ i ih =>
    intro hi
    rw [shM, shC]
    by_cases u : w ≤ shV f T ch i
    · rw [if_pos u, if_pos u, pcN_hi (shM_lt i), ih (by omega), if_pos (by omega)]
    · rw [if_neg u, if_neg u, ih (by omega)]; rfl
theorem shC_le {f : Nat → Nat → Int32} {T : Nat → Int32} {ch : Nat} {w : Int32} : ∀ i, shC f T ch w i ≤ i := by
  intro i
  induction i with
  | zero => exact Nat.le_refl _
  | succ i ih => rw [shC]; split <;> omega
/-- the charge that fewest bear, and how many, of the first c -/
def gnF (M : Nat → Nat) : Nat → Int32 × Int32
  | 0 => (0, 15)
  | c + 1 => if (gnF M c).2 ≤ nI (M c) then gnF M c else (nI c, nI (M c))
theorem p_xgone {ln : Nat → Nat} {N : Nat} {S : HC} {b n : Nat} {f : Nat → Nat → Int32} {o : Option ((Nat → Int32) × Nat)} {T : Nat → Nat → Int32} {x2 : Int32} {post : Int32 → HC → Prop} (hs : SH S) (hl : LN ln) (hb : LB b) (hk : LK ln N S b n f o) (h14 : n ≤ 14) (hT : ∀ ch j, ch < 8 → j < n → hI S 26 (14 * ch + j) = T ch j) (h : post (if x2 = 0 then (gnF (fun c => shC f (T c) c 1 n) 8).1 else (gnF (fun c => shC f (T c) c 1 n) 8).2) S) : ∃ k, LX7_gone_47 ln post k S 0 x2 0 15 0 := by
  have key : ∀ m c, c + m = 8 → LX7_gone_47 ln post (m + 1) S 0 x2 (gnF (fun c => shC f (T c) c 1 n) c).1 (gnF (fun c => shC f (T c) c 1 n) c).2 (nI c) := by
    intro m
    induction m with
    | zero =>
      intro c hc
      have e : c = 8 := by omega
      subst e
      rw [LX7_gone_47]
      dsimp only
      rw [if_pos (by decide)]
      by_cases u : x2 = 0
      · rw [if_pos u] at h ⊢; exact h
      · rw [if_neg u] at h ⊢; exact h
    | succ m ih =>
      intro c hc
      have k := ih (c + 1) (by omega)
      rw [gnF] at k
      rw [LX7_gone_47]
      dsimp only
      unfold BX7_gone_83
      rw [if_neg (show ¬ (8 : Int32) ≤ nI c from nI_ge (b := 8) (by omega) (by decide)), sh0_4 hs, dn_e]
      refine p_bearersOf (T := T c) hs hl hb hk h14 (by omega) (fun p hp => hT c p (by omega) hp) ?_
      have lt := shM_lt (f := f) (T := T c) (ch := c) (w := 1) n
      have p14 : 2 ^ n ≤ 2 ^ 14 := Nat.pow_le_pow_right (by decide) h14
      rw [shM_B n h14, p_bitC14 (by omega), shM_C n h14, lt_e, lt_e, nI_1]
      by_cases u : (gnF (fun c => shC f (T c) c 1 n) c).2 ≤ nI (shC f (T c) c 1 n)
      · rw [if_pos u] at k ⊢; exact k
      · rw [if_neg u] at k ⊢; exact k
  exact ⟨9, key 8 0 (by omega)⟩
theorem p_mgone {ln : Nat → Nat} {N : Nat} {S : HC} {b n : Nat} {f : Nat → Nat → Int32} {o : Option ((Nat → Int32) × Nat)} {T : Nat → Nat → Int32} {x2 : Int32} {post : Int32 → HC → Prop} (hs : SH S) (hl : LN ln) (hk : MK ln N S b n f o) (h14 : n ≤ 14) (hT : ∀ ch j, ch < 8 → j < n → hI S 72 (8 * j + ch) = T ch j) (h : wpX8_putsBack ln S 68 fun S => post (if x2 = 0 then (gnF (fun c => shC f (T c) c 1 n) 8).1 else (gnF (fun c => shC f (T c) c 1 n) 8).2) S) : ∃ k, LX8_gone_44 ln post k S 68 x2 0 15 0 := by
  have key : ∀ m c, c + m = 8 → LX8_gone_44 ln post (m + 1) S 68 x2 (gnF (fun c => shC f (T c) c 1 n) c).1 (gnF (fun c => shC f (T c) c 1 n) c).2 (nI c) := by
    intro m
    induction m with
    | zero =>
      intro c hc
      have e : c = 8 := by omega
      subst e
      rw [LX8_gone_44]
      dsimp only
      rw [if_pos (by decide)]
      by_cases u : x2 = 0
      · simp only [if_pos u] at h ⊢; exact h
      · simp only [if_neg u] at h ⊢; exact h
    | succ m ih =>
      intro c hc
      have k := ih (c + 1) (by omega)
      rw [gnF] at k
      rw [LX8_gone_44]
      dsimp only
      rw [if_neg (show ¬ (8 : Int32) ≤ nI c from nI_ge (b := 8) (by omega) (by decide))]
      generalize gnF (fun c => shC f (T c) c 1 n) c = G at k ⊢
      have inner : ∀ m2 i, i + m2 = n → LX8_gone_57 ln post (LX8_gone_44 ln post (m + 1)) (m2 + 1) S 68 x2 G.1 G.2 (nI c) (nI (shC f (T c) c 1 i)) (nI i) := by
        intro m2
        induction m2 with
        | zero =>
          intro i hi
          rw [LX8_gone_57]
          dsimp only
          unfold BX8_gone_108 BX8_gone_123
          rw [sh68_0 hs, dn_e, ln69 hl, al_l1 (by decide) (by decide), hk.1, if_pos (nI_le (by omega) (by omega)), show i = n by omega, lt_e, nI_1]
          by_cases u : G.2 ≤ nI (shC f (T c) c 1 n)
          · rw [if_pos u] at k
            simp only [if_pos u]
            exact k
          · rw [if_neg u] at k
            simp only [if_neg u]
            exact k
        | succ m2 ih2 =>
          intro i hi
          have k2 := ih2 (i + 1) (by omega)
          rw [shC] at k2
          rw [LX8_gone_57]
          dsimp only
          unfold BX8_gone_86
          rw [sh68_0 hs, dn_e, ln69 hl, al_l1 (by decide) (by decide), hk.1, if_neg (nI_ge (by omega) (by omega)), p_borne (T := T c) hs hl hk h14 (by omega) (by omega) (hT c i (by omega) (by omega)), lt_e, lt_e, lt_e, lt_e, nI_1]
          have iff : shV f (T c) c i ≤ 0 ↔ ¬ (1 : Int32) ≤ shV f (T c) c i := by
            simp only [i_le]
            have : (0 : Int32).toInt = 0 := rfl
            have : (1 : Int32).toInt = 1 := rfl
            omega
          by_cases u : (1 : Int32) ≤ shV f (T c) c i
          · rw [if_pos u] at k2
            rw [if_neg (fun q => iff.mp q u), nI_1]
            exact k2
          · rw [if_neg u] at k2
            rw [if_pos (iff.mpr u), show nI (shC f (T c) c 1 i) + 0 = nI (shC f (T c) c 1 i + 0) from nI_add _ 0]
            exact k2
      exact ⟨n + 1, inner n 0 (by omega)⟩
  exact ⟨9, key 8 0 (by omega)⟩
theorem s_gone {N : Nat} {ln : Nat → Nat} {S : HC} (h : PI N ln S) (a1 a2 : Int32) : wpX7_gone ln S 0 a1 a2 fun v S => wpX8_gone ln S 68 a1 a2 fun w S => OK N ln v w S := by
  obtain ⟨⟨hs, hl, -, -⟩, ⟨⟨n, hn⟩, hw⟩, -⟩ := id h
  have h14 := hn.1
  obtain ⟨f, fe, ye, z, x1, x2, x3, x4, y, hy, rfl⟩ := hn.out
  have no : ¬ ((0 ≤ a1 ∧ a1 ≤ 60) ∧ 0 ≤ a2 ∧ a2 ≤ 1) → wpX8_gone ln S 68 a1 a2 fun w S => OK N ln (-1000000001) w S := fun u => by
    unfold wpX8_gone BX8_gone_19
    rw [p_in]
    by_cases c1 : 0 ≤ a1 ∧ a1 ≤ 60
    · rw [bI_t c1, if_neg (by decide), p_in, bI_f (fun q => u ⟨c1, q⟩), if_pos rfl]
      exact ⟨rfl, h⟩
    · rw [bI_f c1, if_pos rfl]
      exact ⟨rfl, h⟩
  unfold wpX7_gone BX7_gone_19 wpX4_workOutAll
  by_cases c1 : a1 < 0
  · rw [if_pos c1]; exact no (fun q => absurd c1 (Int32.not_lt.mpr q.1.1))
  rw [if_neg c1]
  by_cases c2 : 60 < a1
  · rw [if_pos c2]; exact no (fun q => absurd c2 (Int32.not_lt.mpr q.1.2))
  rw [if_neg c2]
  by_cases c3 : a2 < 0
  · rw [if_pos c3]; exact no (fun q => absurd c3 (Int32.not_lt.mpr q.2.1))
  rw [if_neg c3]
  by_cases c4 : a2 ≤ 1
  · rw [if_pos c4]
    obtain ⟨c, hc, rfl⟩ := nI_of2 (n := 60) (M := 60) (x := a1) rfl c1 (Int32.not_lt.mp c2)
    have hv := yK_ok (fe := fe) c (n, f, z) x3
    have h14' := (yK_le (fe := fe) c (n, f, z) h14).1
    refine p_think hs hl (by omega) x1 h14 (fun S2 ye2 hx2 s2 t11 t24 => ?_)
    have hs2 := hs.sm s2
    obtain ⟨m, m1, m2, m3, m4⟩ := hw.th s2 t11 t24
    rw [sh0_4 hs2, dn_e, sh0_3 hs2, dn_e]
    refine p_look2 hs2 hl (Or.inr (Or.inr (Or.inl rfl))) hx2.1 hx2.2.1 h14' m1 m2 m3 m4 (fun S3 o k3 w3 g1 g2 => ?_)
    have s3 := s2.tr (look_sm g1 g2)
    have hs3 := hs.sm s3
    refine p_allOut hs3 hl (Or.inr (Or.inr (Or.inl rfl))) k3 hv h14' (fun S4 w4 => ?_)
    have s4 := s3.tr (wo_sm w4.1 w4.2.2)
    have hs4 := hs.sm s4
    refine p_xgone hs4 hl (Or.inr (Or.inr (Or.inl rfl))) (k3.ag (Or.inr (Or.inr (Or.inl rfl))) w4.1 w4.2.2) h14' w4.2.1 ?_
    unfold wpX8_gone
    try dsimp only
    rw [p_in, bI_t ⟨nI_pos' (by omega), show nI c ≤ 60 from nI_le (b := 60) hc (by decide)⟩, if_neg (by decide), p_in, bI_t ⟨Int32.not_lt.mp c3, c4⟩, if_neg (by decide)]
    refine p_thinks hs4 hl (fun S5 f5 => ?_)
    have hs5 := f5.sh hs4
    refine p_goesOn (A := (n, f, z)) hl (by omega) hs5 h14 ((x2.sm h14 s4).fl h14 f5) (fun S6 m6 d6 => ?_)
    have hs6 := d6.sh hs5
    have k6 := (((w3.wo w4.1 w4.2.2).fl f5).tm d6.tm).mk m6
    refine p_worksAll hs6 hl k6 hv h14' (fun S7 w7 => ?_)
    refine p_mgone (w7.1.sh hs6) hl (k6.ag w7.1) h14' w7.2 ?_
    exact p_putsBack (w7.1.sh hs6) hl (fun S8 f8 => ⟨rfl, h.sm (TM.back s4 f5 (d6.tm.tr w7.1.tm) f8)⟩)
  · rw [if_neg c4]; exact no (fun q => c4 q.2.2)
