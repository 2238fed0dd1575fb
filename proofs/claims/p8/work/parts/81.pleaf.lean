/-! text: names, the class's side -/
theorem rb_by0 (K : Prop) : rb_ .byte 0 K = K := by simp [rb_, narrow]
theorem i8_e : ∀ b : Fin 128, (nI b.val).toInt8.toInt32 = nI b.val := by decide +kernel
theorem ch_e {b : Nat} (hb : b < 256) : ((nI b).toUInt32 % 65536).toInt32 = nI b := by
  rw [pk_char, pk_tn (by omega), Nat.mod_eq_of_lt (by omega)]
def srch (f : Nat → Int32) (v : Int32) : Nat → Nat → Int32
  | 0, _ => -1
  | m + 1, i => if f i = v then nI i else srch f v m (i + 1)
theorem p_srch {ln : Nat → Nat} {S : HC} {a0 len : Nat} {v : Int32} {post : Int32 → HC → Prop} (hl : strL.getD a0 0 = len) (h9 : len < 9) : ∀ m i, i + m = len → post (srch (fun j => (strB.getD a0 []).getD j 0) v m i) S → LJ1_indexOfChar_4cfef_7 ln post (m + 1) S a0 (nI len) v (nI i) := by
  intro m
  induction m with
  | zero =>
    intro i hi h
    rw [LJ1_indexOfChar_4cfef_7]
    dsimp only
    rw [if_pos (nI_le (by omega) (by omega))]
    rw [srch] at h
    exact h
  | succ m ih =>
    intro i hi h
    rw [LJ1_indexOfChar_4cfef_7]
    dsimp only
    rw [if_neg (nI_ge (by omega) (by omega)), hl, al_e (by omega) (by omega)]
    rw [srch] at h
    by_cases c : (strB.getD a0 []).getD i 0 = v
    · rw [if_pos c] at h ⊢; exact h
    · rw [if_neg c] at h ⊢
      rw [lt_e, nI_1]
      exact ih (i + 1) (by omega) h
theorem srch_e {key b : Nat} (hk : key < 3) (hb : b < 128) : srch (fun j => (strB.getD (3 + key) []).getD j 0) (nI b) (strL.getD (3 + key) 0) 0 = if nmX key b < 9 then nI (nmX key b) else -1 := by
  have e : ∀ key : Fin 3, ∀ b : Fin 128, srch (fun j => (strB.getD (3 + key.val) []).getD j 0) (nI b.val) (strL.getD (3 + key.val) 0) 0 = if nmX key.val b.val < 9 then nI (nmX key.val b.val) else -1 := by decide +kernel
  exact e ⟨key, hk⟩ ⟨b, hb⟩
theorem c_index {ln : Nat → Nat} {S : HC} {key b : Nat} {post : Int32 → HC → Prop} (hk : key < 3) (hb : b < 128) (h : post (if nmX key b < 9 then nI (nmX key b) else -1) S) : wpJ0_indexOf_0f7a4 ln S (3 + key) (nI b) post := by
  unfold wpJ0_indexOf_0f7a4 wpJ0_indexOf_7cf53 wpJ0_isLatin1_aae02
  rw [if_neg (by decide), if_pos rfl, rb_e1]
  dsimp only
  rw [if_neg (by decide)]
  unfold wpJ0_length_8abf5 wpJ0_coder_7d493
  rw [lt_e, if_neg (by decide), rb_by0]
  try dsimp only
  rw [lt_e]
  have el : ∃ len, strL.getD (3 + key) 0 = len ∧ 0 < len ∧ len < 9 ∧ nI len >>> ((0 : Int32) &&& 31) = nI len := by
    rcases (show key = 0 ∨ key = 1 ∨ key = 2 by omega) with e | e | e <;> subst e
    · exact ⟨3, rfl, by decide, by decide, by decide⟩
    · exact ⟨2, rfl, by decide, by decide, by decide⟩
    · exact ⟨2, rfl, by decide, by decide, by decide⟩
  obtain ⟨len, e1, e2, e3, e4⟩ := el
  have es := srch_e hk hb
  rw [e1] at es ⊢
  rw [e4]
  unfold wpJ1_indexOf_4cfef wpJ1_canEncode_9a6ad
  rw [if_neg (nI_pos (by omega)), if_neg (show ¬ (255 : Int32) < nI b from nI_nlt (a := 255) (by omega) (by decide)), rb_e1]
  try dsimp only
  rw [if_neg (by decide)]
  simp only [lt_e]
  rw [if_neg (show ¬ (0 : Int32) < 0 by decide), e1, if_neg (show ¬ nI len < nI len from nI_nlt (Nat.le_refl _) (by omega)), if_pos (show (0 : Int32) < nI len from nI_lt (a := 0) e2 (by omega))]
  unfold wpJ1_indexOfChar_4cfef
  rw [lt_e, i8_e ⟨b, hb⟩]
  refine ⟨len + 1, p_srch e1 e3 len 0 (by omega) ?_⟩
  rw [es]
  exact h
theorem c_name {ln : Nat → Nat} {t : Nat → Nat} {k key : Nat} {S : HC} {x : Nat × Nat × Nat} {r : List (Nat × Nat × Nat)} {cc : List Int32} {lv p nn : Nat} {post : Int32 → HC → Prop} (hl : LN ln) (hk3 : key < 3) (h : CCx t k key S (x :: r) cc lv p nn) (hx : x.2.2 ≠ 2) (hp : post (if x.2.2 = 1 ∧ x.2.1 - x.1 = 1 ∧ nmX key (t x.1) < 9 then nI (10000 + nmX key (t x.1)) else -1) S) : wpX2_nameHere ln S 37 post := by
  obtain ⟨⟨⟨⟨a1, a2, a3⟩, tok, -⟩, ht, hs⟩, ⟨b1, b2⟩, -⟩ := h
  have h96 := ht.1
  have hq := tok.1
  have s4 := tok.2.1
  unfold wpX2_nameHere BX2_nameHere_21
  rw [lt_e, a1]
  by_cases c1 : x.2.2 = 1
  · have sbq := (tok.2.2.1 (by omega)).trans c1
    have lt128 : t x.1 < 128 := by
      unfold sb at sbq
      by_cases d : 97 ≤ t x.1 ∧ t x.1 ≤ 122
      · omega
      · rw [if_neg d] at sbq; split at sbq <;> omega
    rw [if_pos (by rw [c1]; rfl), lt_e, a3, lt_e, a2, lt_e, pk_sub (by omega)]
    by_cases c2 : x.2.1 - x.1 = 1
    · rw [if_pos (by rw [c2]; rfl)]
      have fin : BX2_nameHere_50 ln post S 37 (3 + key) := by
        unfold BX2_nameHere_50
        rw [sh37_0 hs, dn_e, lt_e, a2, p_at hs hl ht (by omega), if_pos (show x.1 < k by omega), lt_e, ch_e (by omega)]
        refine c_index hk3 lt128 ?_
        by_cases c3 : nmX key (t x.1) < 9
        · rw [if_pos ⟨c1, c2, c3⟩] at hp
          rw [if_pos c3, if_pos (nI_pos' (by omega)), lt_e, show (10000 : Int32) + nI (nmX key (t x.1)) = nI (10000 + nmX key (t x.1)) from nI_add 10000 _]
          exact hp
        · rw [if_neg (fun u => c3 u.2.2)] at hp
          rw [if_neg c3, if_neg (by decide)]
          exact hp
      rw [lt_e, b2]
      rcases (show key = 0 ∨ key = 1 ∨ key = 2 by omega) with e | e | e
      · rw [if_pos (by rw [e]; rfl)]; rw [e] at fin; exact fin
      · rw [if_neg (by rw [e]; decide), lt_e, if_pos (by rw [e]; rfl)]; rw [e] at fin; exact fin
      · rw [if_neg (by rw [e]; decide), lt_e, if_neg (by rw [e]; decide)]; rw [e] at fin; exact fin
    · rw [if_neg (fun u => c2 u.2.1)] at hp
      rw [if_neg (show ¬ nI (x.2.1 - x.1) = 1 from fun u => c2 ((nI_eq (b := 1) (by omega) (by decide)).mp u))]
      exact hp
  · rw [if_neg (fun u => c1 u.1)] at hp
    rw [if_neg (show ¬ nI x.2.2 = 1 from fun u => c1 ((nI_eq (b := 1) (by omega) (by decide)).mp u))]
    exact hp
theorem c_name0 {ln : Nat → Nat} {t : Nat → Nat} {k key : Nat} {S : HC} {cc : List Int32} {lv p nn : Nat} {post : Int32 → HC → Prop} (h : CCx t k key S [] cc lv p nn) (hp : post (-1) S) : wpX2_nameHere ln S 37 post := by
  unfold wpX2_nameHere BX2_nameHere_21
  rw [lt_e, h.1.1.1, if_neg (by decide)]
  exact hp
theorem sy_leaf {t : Nat → Nat} {key k : Nat} {x : Nat × Nat × Nat} (tok : TOK t k x.1 x.2.1 x.2.2) (h : (sy t key x).2.1 = 0) : (x.2.2 = 2 ∧ x.2.1 - x.1 ≤ 4 ∧ (sy t key x).2.2 = nmF t x.1 (x.2.1 - x.1) ∧ (sy t key x).2.2 < 10000) ∨ (x.2.2 = 1 ∧ (x.2.1 - x.1 = 1 ∧ nmX key (t x.1) < 9) ∧ (sy t key x).2.2 = 10000 + nmX key (t x.1)) := by
  unfold sy at h ⊢
  dsimp only at h ⊢
  by_cases c3 : x.2.2 = 3
  · rw [if_pos c3] at h
    repeat' split at h
    all_goals omega
  rw [if_neg c3] at h
  by_cases c2 : x.2.2 = 2
  · rw [if_pos c2] at h
    by_cases c4 : x.2.1 - x.1 ≤ 4
    · refine Or.inl ⟨c2, c4, by rw [if_neg c3, if_pos c2], ?_⟩
      rw [if_neg c3, if_pos c2]
      have lt := nmF_lt (t := t) (q := x.1) (x.2.1 - x.1) (fun i hi => (tok.2.2.2.2 (Or.inr c2) (x.1 + i) (by omega) (by omega)).trans c2)
      have : 10 ^ (x.2.1 - x.1) ≤ 10 ^ 4 := Nat.pow_le_pow_right (by decide) c4
      omega
    · rw [if_neg c4] at h; omega
  rw [if_neg c2] at h
  by_cases c1 : x.2.2 = 1
  · rw [if_pos c1] at h
    by_cases c : x.2.1 - x.1 = 1 ∧ nmX key (t x.1) < 9
    · exact Or.inr ⟨c1, c, by rw [if_neg c3, if_neg c2]⟩
    · rw [if_neg c] at h; omega
  · rw [if_neg c1] at h; omega
theorem sy_not {t : Nat → Nat} {key : Nat} {x : Nat × Nat × Nat} (h : (sy t key x).2.1 ≠ 0) : (x.2.2 = 2 → ¬ x.2.1 - x.1 ≤ 4) ∧ ¬ (x.2.2 = 1 ∧ x.2.1 - x.1 = 1 ∧ nmX key (t x.1) < 9) := by
  unfold sy at h
  dsimp only at h
  refine ⟨fun u v => ?_, fun u => ?_⟩
  · rw [if_neg (by omega), if_pos u, if_pos v] at h
    exact h rfl
  · rw [if_neg (by omega), if_neg (by omega), if_pos u.1, if_pos u.2] at h
    exact h rfl
/-- a NUMBER or NAME is read, or it is none -/
theorem c_leaf {ln : Nat → Nat} {t : Nat → Nat} {k key : Nat} {S : HC} {ts : List (Nat × Nat × Nat)} {cc : List Int32} {lv p nn : Nat} {post : HC → Prop} (hl : LN ln) (hk3 : key < 3) (h : CCx t k key S ts cc lv p nn) (h96 : cc.length < 96) (hp : ∀ S' x r, ts = x :: r → (sy t key x).2.1 = 0 → CCx t k key S' r (cc ++ [nI (sy t key x).2.2]) (lv + 1) p nn → FR S S' → post S') (hf : ∀ S', (∀ x r, ts = x :: r → (sy t key x).2.1 ≠ 0) → FR S S' → hI S' 37 10 = nI (hdp k ts) → SH S' → post S') : wpX2_readLeaf ln S 37 post := by
  unfold wpX2_readLeaf
  rw [lt_e]
  have bad : (∀ x r, ts = x :: r → (sy t key x).2.1 ≠ 0) → BX2_readLeaf_19 ln post S 37 (-1) := fun u => by
    unfold BX2_readLeaf_19
    rw [if_neg (by decide)]
    exact c_fail h (fun S' f1 f2 f3 => hf S' u f1 f2 f3)
  cases ts with
  | nil =>
    rw [h.1.1.1, if_neg (by decide)]
    exact c_name0 h (bad (fun x r u => by cases u))
  | cons x r =>
    have tok := h.1.1.2.1
    have a1 := h.1.1.1.1
    have s4 := tok.2.1
    have good : (sy t key x).2.1 = 0 → (sy t key x).2.2 < 20000 → x.2.2 ≠ 4 → BX2_readLeaf_19 ln post S 37 (nI (sy t key x).2.2) := fun u1 u2 u3 => by
      unfold BX2_readLeaf_19
      rw [if_pos (nI_pos' (by omega))]
      refine c_write hl h h96 (fun S1 h1 f1 => ?_)
      rw [lt_e, h1.2.2.2.1, lt_e, nI_1, lt_e]
      have h2 : CCx t k key (sI S1 37 7 (nI (lv + 1))) (x :: r) (cc ++ [nI (sy t key x).2.2]) (lv + 1) p nn := by
        obtain ⟨⟨ct, ht, hs⟩, ⟨b1, b2⟩, ⟨c1, c2⟩, d1, d2, d3⟩ := h1
        exact ⟨⟨ct.ag (fun i u => hI_ne (by omega)), ht.ag (fun r i u => hI_row (by omega)), hs.sI _ _ _⟩, ⟨by rw [hI_ne (by decide)]; exact b1, by rw [hI_ne (by decide)]; exact b2⟩, ⟨by rw [hI_ne (by decide)]; exact c1, fun i hi => by rw [hI_row (by decide)]; exact c2 i hi⟩, hI_self _ _ _ _, by rw [hI_ne (by decide)]; exact d2, by rw [hI_ne (by decide)]; exact d3⟩
      exact c_adv hl h2 u3 (fun S3 h3 f3 => hp S3 x r rfl u1 h3 ((f1.tr FR.s37).tr f3))
    rw [a1]
    by_cases c2 : x.2.2 = 2
    · rw [if_pos (by rw [c2]; rfl)]
      refine c_number hl h c2 ?_
      by_cases c : (sy t key x).2.1 = 0
      · rcases sy_leaf tok c with ⟨_, e2, e3, e4⟩ | ⟨e1, _⟩
        · rw [if_pos e2, ← e3]; exact good c (by omega) (by omega)
        · omega
      · rw [if_neg ((sy_not c).1 c2)]
        exact bad (fun y r' u => by cases u; exact c)
    · rw [if_neg (show ¬ nI x.2.2 = 2 from fun u => c2 ((nI_eq (b := 2) (by omega) (by decide)).mp u))]
      refine c_name hl hk3 h c2 ?_
      by_cases c : (sy t key x).2.1 = 0
      · rcases sy_leaf tok c with ⟨e1, _⟩ | ⟨e1, e2, e3⟩
        · omega
        · have := nmX_in e2.2
          rw [if_pos ⟨e1, e2.1, e2.2⟩, ← e3]; exact good c (by omega) (by omega)
      · rw [if_neg (sy_not c).2]
        exact bad (fun y r' u => by cases u; exact c)
