/-! text: the key, both sides -/
abbrev kwP (t : Nat → Nat) (a : Nat) (x : Nat × Nat × Nat) : Prop := x.2.2 = 1 ∧ x.2.1 - x.1 = strL.getD a 0 ∧ ∀ i, i < strL.getD a 0 → nI (t (x.1 + i)) = (strB.getD a []).getD i 0
theorem st_len : ∀ a : Fin 3, 0 < strL.getD a.val 0 ∧ strL.getD a.val 0 ≤ 4 ∧ nI (strL.getD a.val 0) >>> ((0 : Int32) &&& 31) = nI (strL.getD a.val 0) := by decide
theorem st_byt : ∀ a : Fin 3, ∀ i : Fin 4, ∃ c : Fin 128, (strB.getD a.val []).getD i.val 0 = nI c.val := by decide +kernel
theorem rb_ch {q : Nat} {K : Prop} (h : q < 65536) : rb_ .char (nI q) K = K := by
  unfold rb_
  exact propext ⟨fun u => u.2, fun u => ⟨(pk_charN h).1, u⟩⟩
theorem c_len {ln : Nat → Nat} {S : HC} {a : Nat} {post : Int32 → HC → Prop} (ha : a < 3) : wpJ0_length_8abf5 ln S a post = post (nI (strL.getD a 0)) S := by
  unfold wpJ0_length_8abf5 wpJ0_coder_7d493
  rw [lt_e, if_neg (by decide), rb_by0]
  try dsimp only
  rw [lt_e, (st_len ⟨a, ha⟩).2.2]
theorem c_char {ln : Nat → Nat} {S : HC} {a i : Nat} {post : Int32 → HC → Prop} (ha : a < 3) (hi : i < strL.getD a 0) : wpJ0_charAt_5068e ln S a (nI i) post = post ((strB.getD a []).getD i 0) S := by
  have l4 := (st_len ⟨a, ha⟩).2.1
  dsimp only at l4
  obtain ⟨⟨c, hc⟩, ec⟩ := st_byt ⟨a, ha⟩ ⟨i, by omega⟩
  dsimp only at ec
  unfold wpJ0_charAt_5068e wpJ0_isLatin1_aae02
  rw [if_neg (by decide), if_pos rfl, rb_e1]
  try dsimp only
  rw [if_neg (by decide)]
  unfold wpJ1_charAt_3b067 wpJ0_checkIndex_df160 wpJ3_checkIndex
  rw [lt_e, if_neg (nI_pos (by omega)), if_pos (nI_lt hi (by omega))]
  try dsimp only
  rw [al_e hi (by omega), ec, lt_e, lt_e, pk_andN (by omega) 8 (by decide), Nat.mod_eq_of_lt (by omega), ch_e (by omega), rb_ch (by omega)]
  try dsimp only
  rw [rb_ch (by omega)]
theorem c_word {ln : Nat → Nat} {t : Nat → Nat} {k a : Nat} {S : HC} {x : Nat × Nat × Nat} {r : List (Nat × Nat × Nat)} {post : Int32 → HC → Prop} (hs : SH S) (hl : LN ln) (ha : a < 3) (ht : TP S t k) (ct : CT t k S (x :: r)) (h : post (bI (kwP t a x)) S) : wpX2_isWord ln S 37 a post := by
  obtain ⟨⟨a1, a2, a3⟩, tok, -⟩ := ct
  have h96 := ht.1
  have hq := tok.1
  have s4 := tok.2.1
  have l4 := (st_len ⟨a, ha⟩).2.1
  dsimp only at l4
  unfold wpX2_isWord BX2_isWord_24
  rw [lt_e, a1, rb_e0]
  by_cases c1 : x.2.2 = 1
  · rw [if_pos (by rw [c1]; rfl), lt_e, a3, lt_e, a2, lt_e, pk_sub (by omega), c_len ha]
    by_cases c2 : x.2.1 - x.1 = strL.getD a 0
    · rw [if_pos (by rw [c2])]
      have key : ∀ m i, i + m = strL.getD a 0 → (∀ j, j < i → nI (t (x.1 + j)) = (strB.getD a []).getD j 0) → LX2_isWord_28 ln post (m + 1) S 37 a (nI i) := by
        intro m
        induction m with
        | zero =>
          intro i hi hj
          rw [LX2_isWord_28]
          dsimp only
          rw [c_len ha, if_pos (nI_le (by omega) (by omega)), rb_e1]
          rw [bI_t ⟨c1, c2, fun j u => hj j (by omega)⟩] at h
          exact h
        | succ m ih =>
          intro i hi hj
          rw [LX2_isWord_28]
          dsimp only
          rw [c_len ha, if_neg (nI_ge (by omega) (by omega)), sh37_0 hs, dn_e, lt_e, a2, lt_e, nI_add, p_at hs hl ht (by omega), if_pos (show x.1 + i < k by omega), c_char ha (by omega)]
          by_cases c3 : nI (t (x.1 + i)) = (strB.getD a []).getD i 0
          · rw [if_pos c3, lt_e, nI_1]
            refine ih (i + 1) (by omega) (fun j u => ?_)
            by_cases e : j = i
            · rw [e]; exact c3
            · exact hj j (by omega)
          · rw [if_neg c3, rb_e0]
            rw [bI_f (fun u => c3 (u.2.2 i (by omega)))] at h
            exact h
      exact ⟨_, key (strL.getD a 0) 0 (by omega) (fun j u => absurd u (by omega))⟩
    · rw [if_neg (fun u => c2 ((nI_eq (by omega) (by omega)).mp u)), rb_e0]
      rw [bI_f (fun u => c2 u.2.1)] at h
      exact h
  · rw [if_neg (show ¬ nI x.2.2 = 1 from fun u => c1 ((nI_eq (b := 1) (by omega) (by decide)).mp u))]
    rw [bI_f (fun u => c1 u.1)] at h
    exact h
theorem c_word0 {ln : Nat → Nat} {t : Nat → Nat} {k a : Nat} {S : HC} {post : Int32 → HC → Prop} (ct : CT t k S []) (h : post 0 S) : wpX2_isWord ln S 37 a post := by
  unfold wpX2_isWord BX2_isWord_24
  rw [lt_e, ct.1, if_neg (by decide), rb_e0]
  exact h
/-- which key stands there: 3 none -/
def kf (t : Nat → Nat) : List (Nat × Nat × Nat) → Nat
  | [] => 3
  | x :: _ => if kwP t 0 x then 0 else if kwP t 1 x then 1 else if kwP t 2 x then 2 else 3
theorem c_key {ln : Nat → Nat} {t : Nat → Nat} {k : Nat} {S : HC} {ts : List (Nat × Nat × Nat)} {post : Int32 → HC → Prop} (hs : SH S) (hl : LN ln) (ht : TP S t k) (ct : CT t k S ts) (h : post (if kf t ts < 3 then nI (kf t ts) else -1) S) : wpX2_keyHere ln S 37 post := by
  unfold wpX2_keyHere
  cases ts with
  | nil =>
    refine c_word0 ct ?_
    rw [if_pos rfl]
    refine c_word0 ct ?_
    rw [if_pos rfl]
    refine c_word0 ct ?_
    rw [if_pos rfl]
    exact h
  | cons x r =>
    refine c_word hs hl (by decide) ht ct ?_
    rw [kf] at h
    by_cases c0 : kwP t 0 x
    · rw [bI_t c0, if_neg (by decide)]
      rw [if_pos c0] at h
      exact h
    rw [bI_f c0, if_pos rfl]
    rw [if_neg c0] at h
    refine c_word hs hl (by decide) ht ct ?_
    by_cases c1 : kwP t 1 x
    · rw [bI_t c1, if_neg (by decide)]
      rw [if_pos c1] at h
      exact h
    rw [bI_f c1, if_pos rfl]
    rw [if_neg c1] at h
    refine c_word hs hl (by decide) ht ct ?_
    by_cases c2 : kwP t 2 x
    · rw [bI_t c2, if_neg (by decide)]
      rw [if_pos c2] at h
      exact h
    rw [bI_f c2, if_pos rfl]
    rw [if_neg c2] at h
    exact h
theorem ky_at : ∀ w : Fin 3, (([0, 4, 7, 11] : List Int32).getD (w.val + 1) 0 - ([0, 4, 7, 11] : List Int32).getD w.val 0 = nI (strL.getD w.val 0)) ∧ ∃ o : Fin 8, ([0, 4, 7, 11] : List Int32).getD w.val 0 = nI o.val ∧ ∀ i : Fin 4, i.val < strL.getD w.val 0 → o.val + i.val < 11 ∧ ([106, 111, 105, 110, 102, 101, 101, 102, 105, 110, 101] : List Int32).getD (o.val + i.val) 0 = (strB.getD w.val []).getD i.val 0 := by decide +kernel
theorem r_word {ln : Nat → Nat} {t : Nat → Nat} {k w : Nat} {S : HC} {x : Nat × Nat × Nat} {r : List (Nat × Nat × Nat)} {post : Int32 → HC → Prop} {K : HC → Nat → Int32 → Prop} (hs : SH S) (hl : LN ln) (hw : w < 3) (ht : TPm S t k) (hk : pKey S) (ct : RTk t k S (x :: r)) (x1 : x.2.2 = 1) (hA : kwP t w x → BX8_takesKey_106 ln post K S 68 (nI w) 1) (hC : ¬ kwP t w x → BX8_takesKey_106 ln post K S 68 (nI w) 0) : if nI (strL.getD w 0) = nI (x.2.1 - x.1) then BX8_takesKey_51 ln post K S 68 (nI w) (nI (strL.getD w 0)) 1 else BX8_takesKey_51 ln post K S 68 (nI w) (nI (strL.getD w 0)) 0 := by
  obtain ⟨⟨a1, a2, a3⟩, -, -, tok, -⟩ := ct
  have h96 := ht.1
  have hq := tok.1
  have l4 := st_len ⟨w, hw⟩
  obtain ⟨-, ⟨o, ho8⟩, ho, hb⟩ := ky_at ⟨w, hw⟩
  dsimp only at l4 ho hb
  have stop : ∀ n (i : Nat) (f : Int32), f = 0 → (f = 0 → BX8_takesKey_106 ln post K S 68 (nI w) 0) → LX8_takesKey_55 ln post K (n + 1) S 68 (nI w) (nI (strL.getD w 0)) f (nI i) := fun n i f e h => by
    rw [LX8_takesKey_55]
    dsimp only
    rw [e, if_pos rfl]
    split
    · exact h e
    · exact h e
  by_cases c2 : x.2.1 - x.1 = strL.getD w 0
  · rw [if_pos (by rw [c2])]
    unfold BX8_takesKey_51
    have key : ∀ m i, i + m = strL.getD w 0 → (∀ j, j < i → nI (t (x.1 + j)) = (strB.getD w []).getD j 0) → LX8_takesKey_55 ln post K (m + 2) S 68 (nI w) (nI (strL.getD w 0)) 1 (nI i) := by
      intro m
      induction m with
      | zero =>
        intro i hi hj
        rw [LX8_takesKey_55]
        dsimp only
        rw [if_pos (nI_le (by omega) (by omega))]
        exact hA ⟨x1, c2, fun j u => hj j (by omega)⟩
      | succ m ih =>
        intro i hi hj
        have b := hb ⟨i, by omega⟩ (by dsimp only; omega)
        dsimp only at b
        have e75 : hI S 75 (o + i) = (strB.getD w []).getD i 0 := (hk.1 (o + i) b.1).trans b.2
        have e76 : hI S 76 w = nI o := (hk.2 w (by omega)).trans ho
        rw [LX8_takesKey_55]
        dsimp only
        unfold BX8_takesKey_99
        rw [if_neg (nI_ge (by omega) (by omega)), if_neg (by decide), sh68_6 hs, dn_e, lt_e, a1, lt_e, nI_add, ln74 hl, al_e (by omega) (by decide), (ht.2.2 (x.1 + i) (by omega)).1, sh68_14 hs, dn_e, sh68_15 hs, dn_e, ln76 hl, al_e (by omega) (by decide), e76, lt_e, nI_add, ln75 hl, al_e b.1 (by decide), e75]
        simp only [lt_e]
        rw [nI_1]
        by_cases c3 : nI (t (x.1 + i)) = (strB.getD w []).getD i 0
        · rw [if_pos c3]
          refine ih (i + 1) (by omega) (fun j u => ?_)
          by_cases e : j = i
          · rw [e]; exact c3
          · exact hj j (by omega)
        · rw [if_neg c3]
          exact stop _ _ 0 rfl (fun _ => hC (fun u => c3 (u.2.2 i (by omega))))
    exact ⟨_, key (strL.getD w 0) 0 (by omega) (fun j u => absurd u (by omega))⟩
  · rw [if_neg (fun u => c2 ((nI_eq (by omega) (by omega)).mp u).symm)]
    unfold BX8_takesKey_51
    exact ⟨1, stop 0 0 0 rfl (fun _ => hC (fun u => c2 u.2.1))⟩
theorem r_key {ln : Nat → Nat} {t : Nat → Nat} {k : Nat} {S : HC} {ts : List (Nat × Nat × Nat)} {post : Int32 → HC → Prop} (hs : SH S) (hl : LN ln) (ht : TPm S t k) (hk : pKey S) (ct : RTk t k S ts) (h1 : ∀ x r, ts = x :: r → kf t ts < 3 → wpX8_go ln (sI S 68 13 (nI (kf t ts))) 68 fun S => post 1 S) (h0 : ¬ kf t ts < 3 → post 0 S) : wpX8_takesKey ln S 68 post := by
  unfold wpX8_takesKey
  cases ts with
  | nil =>
    rw [lt_e, ct.1, if_neg (by decide), rb_e0]
    exact h0 (by rw [kf]; decide)
  | cons x r =>
    obtain ⟨⟨a1, a2, a3⟩, -, -, tok, -⟩ := id ct
    have ke := kdT_e tok.2.1
    have h96 := ht.1
    have hq := tok.1
    rw [lt_e, a3]
    by_cases c1 : x.2.2 = 1
    · rw [if_pos (by rw [ke.2.1.mpr c1]; rfl)]
      have h1' := h1 x r rfl
      rw [kf] at h1' h0
      have one : ∀ (n w : Nat), w < 3 → (kwP t w x → wpX8_go ln (sI S 68 13 (nI w)) 68 fun S => post 1 S) → (¬ kwP t w x → LX8_takesKey_12 ln post n S 68 (nI (w + 1))) → LX8_takesKey_12 ln post (n + 1) S 68 (nI w) := fun n w hw g1 g0 => by
        have e1 : hI S 76 (w + 1) = ([0, 4, 7, 11] : List Int32).getD (w + 1) 0 := hk.2 (w + 1) (by omega)
        have e0 : hI S 76 w = ([0, 4, 7, 11] : List Int32).getD w 0 := hk.2 w (by omega)
        have ky := (ky_at ⟨w, hw⟩).1
        dsimp only at ky
        rw [LX8_takesKey_12]
        dsimp only
        rw [if_neg (show ¬ (3 : Int32) ≤ nI w from nI_ge (b := 3) hw (by decide)), sh68_15 hs, dn_e, lt_e, nI_1, ln76 hl, al_e (by omega) (by decide), dn_e, ln76 hl, al_e (by omega) (by decide), lt_e, lt_e, a2, lt_e, a1, lt_e, pk_sub (by omega), e1, e0, ky]
        refine r_word hs hl hw ht hk ct c1 (fun u => ?_) (fun u => ?_)
        · unfold BX8_takesKey_106
          rw [if_neg (by decide), lt_e]
          simp only [rb_e1]
          exact g1 u
        · unfold BX8_takesKey_106
          rw [if_pos rfl, lt_e, nI_1]
          exact g0 u
      refine ⟨4, one 3 0 (by decide) (fun u => ?_) (fun u0 => one 2 1 (by decide) (fun u => ?_) (fun u1 => one 1 2 (by decide) (fun u => ?_) (fun u2 => ?_)))⟩
      · rw [if_pos u] at h1'
        exact h1' (by decide)
      · rw [if_neg u0, if_pos u] at h1'
        exact h1' (by decide)
      · rw [if_neg u0, if_neg u1, if_pos u] at h1'
        exact h1' (by decide)
      · rw [if_neg u0, if_neg u1, if_neg u2] at h0
        rw [LX8_takesKey_12]
        dsimp only
        rw [if_pos (by decide), rb_e0]
        exact h0 (by decide)
    · rw [if_neg (show ¬ nI (kdT x) = 1 from fun u => c1 (ke.2.1.mp ((nI_eq (b := 1) (by omega) (by decide)).mp u))), rb_e0]
      refine h0 ?_
      rw [kf, if_neg (fun u => c1 u.1), if_neg (fun u => c1 u.1), if_neg (fun u => c1 u.1)]
      decide
