/-! text: the reference's reading is that function -/
def WS (S : HC) : List Int32 → Prop
  | [] => True
  | x :: V => hI S 78 V.length = x ∧ WS S V
def BS (S : HC) : List Bool → Prop
  | [] => True
  | b :: B => hI S 79 B.length = (if b = true then 1 else 0) ∧ BS S B
theorem WS.ag {S S' : HC} : ∀ {W : List Int32}, WS S W → (∀ i, i < W.length → hI S' 78 i = hI S 78 i) → WS S' W := by
  intro W
  induction W with
  | nil => intro _ _; exact trivial
  | cons x V ih => intro h e; exact ⟨by rw [e _ (by simp)]; exact h.1, ih h.2 (fun i hi => e i (by simp; omega))⟩
theorem BS.ag {S S' : HC} : ∀ {B : List Bool}, BS S B → (∀ i, i < B.length → hI S' 79 i = hI S 79 i) → BS S' B := by
  intro B
  induction B with
  | nil => intro _ _; exact trivial
  | cons b B ih => intro h e; exact ⟨by rw [e _ (by simp)]; exact h.1, ih h.2 (fun i hi => e i (by simp; omega))⟩
def CDx (S : HC) (c : List Int32) (a : Nat) : Prop := hI S 68 17 = nI c.length ∧ (∀ i, i < c.length → hI S 77 i = c.getD i 0) ∧ hI S 68 18 = nI a
def FT (S S' : HC) : Prop := (∀ r i, r ≠ 77 → r ≠ 78 → r ≠ 79 → ¬ (r = 68 ∧ ((8 ≤ i ∧ i ≤ 12) ∨ i = 17 ∨ i = 18 ∨ i = 20)) → hI S' r i = hI S r i) ∧ ∀ r i, hR S' r i = hR S r i
theorem FT.rf (S : HC) : FT S S := ⟨fun _ _ _ _ _ _ => rfl, fun _ _ => rfl⟩
theorem FT.tr {S S' S'' : HC} (h : FT S S') (h2 : FT S' S'') : FT S S'' := ⟨fun r i u1 u2 u3 u4 => (h2.1 r i u1 u2 u3 u4).trans (h.1 r i u1 u2 u3 u4), fun r i => (h2.2 r i).trans (h.2 r i)⟩
theorem FT.sh {S S' : HC} (h : FT S S') (hs : SH S) : SH S' := hs.of (fun _ _ => h.2 _ _)
theorem FT.tp {S S' : HC} {t : Nat → Nat} {k : Nat} (h : FT S S') (ht : TPm S t k) : TPm S' t k := ht.ag (fun r i u => h.1 r i (by omega) (by omega) (by omega) (by omega))
theorem FT.s68 {S : HC} {i : Nat} {v : Int32} (h : (8 ≤ i ∧ i ≤ 12) ∨ i = 17 ∨ i = 18 ∨ i = 20) : FT S (sI S 68 i v) := ⟨fun r j _ _ _ u => hI_ne (by omega), fun _ _ => rfl⟩
theorem FT.arr {S : HC} {r i : Nat} {v : Int32} (h : r = 77 ∨ r = 78 ∨ r = 79) : FT S (sI S r i v) := ⟨fun r' j u1 u2 u3 _ => hI_row (by omega), fun _ _ => rfl⟩
theorem FG.ft {S S' : HC} (h : FG S S') : FT S S' := ⟨fun r i _ _ _ u => h.1 r i (by omega), h.2⟩
theorem RTk.ag {t : Nat → Nat} {k : Nat} {S S' : HC} {ts : List (Nat × Nat × Nat)} (h : RTk t k S ts) (e : ∀ i, 8 ≤ i ∧ i ≤ 12 → hI S' 68 i = hI S 68 i) : RTk t k S' ts := by
  cases ts with
  | nil => exact ⟨by rw [e 10 (by omega)]; exact h.1, by rw [e 9 (by omega)]; exact h.2⟩
  | cons x r =>
    obtain ⟨⟨a1, a2, a3⟩, ⟨b1, b2⟩, ⟨c1, c2⟩, d⟩ := h
    exact ⟨⟨by rw [e 9 (by omega)]; exact a1, by rw [e 8 (by omega)]; exact a2, by rw [e 10 (by omega)]; exact a3⟩, ⟨fun u => by rw [e 11 (by omega)]; exact b1 u, fun u => by rw [e 11 (by omega)]; exact b2 u⟩, ⟨fun u => by rw [e 12 (by omega)]; exact c1 u, fun u => by rw [e 12 (by omega)]; exact c2 u⟩, d⟩
def MMx (t : Nat → Nat) (k key : Nat) (S : HC) (ts : List (Nat × Nat × Nat)) (c : List Int32) (a : Nat) (W : List Int32) (B : List Bool) : Prop := (RTk t k S ts ∧ TPm S t k ∧ SH S ∧ hI S 68 13 = nI key) ∧ CDx S c a ∧ (hI S 68 20 = nI W.length ∧ WS S W) ∧ BS S B
theorem m_go {ln : Nat → Nat} {t : Nat → Nat} {k key : Nat} {S : HC} {x : Nat × Nat × Nat} {ts : List (Nat × Nat × Nat)} {c : List Int32} {a : Nat} {W : List Int32} {B : List Bool} {post : HC → Prop} (hl : LN ln) (h : MMx t k key S (x :: ts) c a W B) (hp : ∀ S', MMx t k key S' ts c a W B → FT S S' → post S') : wpX8_go ln S 68 post := by
  obtain ⟨⟨⟨⟨a1, a2, a3⟩, -, ⟨c1, c2⟩, tok, n, hn, hr⟩, ht, hs, hk⟩, ⟨d1, d2, d3⟩, ⟨w1, w2⟩, hB⟩ := h
  refine p_go (g := decide (x.2.2 ≠ 3)) hs hl ht a2 tok.1.2 (fun u => c1 (of_decide_eq_true u)) (fun u => c2 (Decidable.not_not.mp (of_decide_eq_false u))) hn (fun S' hR' hf => ?_)
  rw [← hr] at hR'
  exact hp S' ⟨⟨hR', hf.tp ht, hf.sh hs, by rw [hf.1 68 13 (by omega)]; exact hk⟩, ⟨by rw [hf.1 68 17 (by omega)]; exact d1, fun i hi => by rw [hf.1 77 i (by omega)]; exact d2 i hi, by rw [hf.1 68 18 (by omega)]; exact d3⟩, ⟨by rw [hf.1 68 20 (by omega)]; exact w1, w2.ag (fun i _ => hf.1 _ _ (by omega))⟩, hB.ag (fun i _ => hf.1 _ _ (by omega))⟩ hf.ft
theorem getD_app {c : List Int32} {v : Int32} {i : Nat} (hi : i < c.length + 1) : (c ++ [v]).getD i 0 = if i = c.length then v else c.getD i 0 := by
  by_cases q : i = c.length
  · rw [if_pos q, q]
    simp [List.getD, List.getElem?_append]
  · rw [if_neg q]
    simp [List.getD, List.getElem?_append, show i < c.length by omega]
/-- one sign that waits comes to the code -/
theorem MMx.pop {t : Nat → Nat} {k key : Nat} {S : HC} {ts : List (Nat × Nat × Nat)} {c : List Int32} {a : Nat} {x : Int32} {V : List Int32} {B : List Bool} (h : MMx t k key S ts c a (x :: V) B) : MMx t k key (sI (sI (sI S 68 20 (nI V.length)) 77 c.length x) 68 17 (nI (c.length + 1))) ts (c ++ [x]) a V B := by
  obtain ⟨⟨r1, ht, hs, hk⟩, ⟨d1, d2, d3⟩, ⟨w1, w2⟩, hB⟩ := h
  refine ⟨⟨r1.ag (fun i u => by rw [hI_ne (by omega), hI_row (by decide), hI_ne (by omega)]), ht.ag (fun r i u => by rw [hI_ne (by omega), hI_row (by omega), hI_ne (by omega)]), ((hs.sI _ _ _).sI _ _ _).sI _ _ _, by rw [hI_ne (by decide), hI_row (by decide), hI_ne (by decide)]; exact hk⟩, ⟨by rw [hI_self, List.length_append]; rfl, fun i hi => ?_, by rw [hI_ne (by decide), hI_row (by decide), hI_ne (by decide)]; exact d3⟩, ⟨by rw [hI_ne (by decide), hI_row (by decide), hI_self], w2.2.ag (fun i _ => by rw [hI_row (by decide), hI_row (by decide), hI_row (by decide)])⟩, hB.ag (fun i _ => by rw [hI_row (by decide), hI_row (by decide), hI_row (by decide)])⟩
  rw [List.length_append] at hi
  have hi2 : i < c.length + 1 := hi
  rw [getD_app hi2, hI_row (by decide)]
  by_cases q : i = c.length
  · rw [if_pos q, q, hI_self]
  · rw [if_neg q, hI_ne (by omega), hI_row (by decide)]
    exact d2 i (by omega)
theorem rk_le (x : Int32) : rk x ≤ 6 := by
  unfold rk
  repeat' split
  all_goals omega
theorem m_settle {ln : Nat → Nat} {t : Nat → Nat} {k key r : Nat} {ts : List (Nat × Nat × Nat)} {a : Nat} {B : List Bool} {post : HC → Prop} (hl : LN ln) (hr : r ≤ 6) : ∀ (W c : List Int32) (S : HC), c.length + W.length ≤ 96 → MMx t k key S ts c a W B → (∀ S', MMx t k key S' ts (stl r W c).2 a (stl r W c).1 B → FT S S' → post S') → wpX8_settle ln S 68 (nI r) post ∧ LX8_settle_0 ln post (W.length + 1) S 68 (nI r) := by
  intro W
  induction W with
  | nil =>
    intro c S h96 h hp
    have q := hp S h (FT.rf S)
    have w1 := h.2.2.1.1
    refine ⟨?_, ?_⟩
    · unfold wpX8_settle
      rw [lt_e, w1, if_pos (by decide)]
      exact q
    · rw [LX8_settle_0]
      dsimp only
      rw [lt_e, w1, if_pos (by decide)]
      exact q
  | cons x V ih =>
    intro c S h96 h hp
    have hs := h.1.2.2.1
    have w1 := h.2.2.1.1
    have wx := h.2.2.1.2.1
    have d1 := h.2.1.1
    rw [List.length_cons] at h96 w1
    have hm : nI (V.length + 1) - 1 = nI V.length := pk_sub (a := V.length + 1) (b := 1) (by omega)
    rw [stl] at hp
    by_cases c1 : x = -11 ∨ rk x < r
    · rw [if_pos c1] at hp
      have q := hp S h (FT.rf S)
      have stop : (al_ (ln 78) (nI V.length) (hI S 78) fun z5 => if z5 = -11 then post S else False) ∨ True := Or.inr trivial
      refine ⟨?_, ?_⟩
      · unfold wpX8_settle
        rw [lt_e, w1, if_neg (nI_nle (by omega) (by omega)), sh68_19 hs, dn_e, lt_e, lt_e, hm, ln78 hl, al_e (by omega) (by decide), wx]
        by_cases c2 : x = -11
        · rw [if_pos c2]; exact q
        · rw [if_neg c2, dn_e, lt_e, lt_e, hm, ln78 hl, al_e (by omega) (by decide), wx, p_rank, if_pos (nI_lt (c1.resolve_left c2) (by omega))]
          exact q
      · rw [LX8_settle_0]
        dsimp only
        rw [lt_e, w1, if_neg (nI_nle (by omega) (by omega)), sh68_19 hs, dn_e, lt_e, lt_e, hm, ln78 hl, al_e (by omega) (by decide), wx]
        by_cases c2 : x = -11
        · rw [if_pos c2]; exact q
        · rw [if_neg c2, dn_e, lt_e, lt_e, hm, ln78 hl, al_e (by omega) (by decide), wx, p_rank, if_pos (nI_lt (c1.resolve_left c2) (by omega))]
          exact q
    · rw [if_neg c1] at hp
      have c2 : ¬ x = -11 := fun u => c1 (Or.inl u)
      have c3 : ¬ rk x < r := fun u => c1 (Or.inr u)
      have rk6 : rk x ≤ 6 := rk_le x
      have nx := ih (c ++ [x]) _ (by rw [List.length_append]; simp; omega) h.pop (fun S' h' f' => hp S' h' ((((FT.s68 (Or.inr (Or.inr (Or.inr rfl)))).tr (FT.arr (Or.inl rfl))).tr (FT.s68 (Or.inr (Or.inl rfl)))).tr f'))
      have e20 : hI (sI S 68 20 (nI V.length)) 68 20 = nI V.length := hI_self _ _ _ _
      have e17 : hI (sI S 68 20 (nI V.length)) 68 17 = nI c.length := by rw [hI_ne (by decide)]; exact d1
      have e78 : hI (sI S 68 20 (nI V.length)) 78 V.length = x := by rw [hI_row (by decide)]; exact wx
      have e17' : hI (sI (sI S 68 20 (nI V.length)) 77 c.length x) 68 17 = nI c.length := by rw [hI_row (by decide)]; exact e17
      have hs1 : SH (sI S 68 20 (nI V.length)) := hs.sI _ _ _
      refine ⟨?_, ?_⟩
      · unfold wpX8_settle
        rw [lt_e, w1, if_neg (nI_nle (by omega) (by omega)), sh68_19 hs, dn_e, lt_e, lt_e, hm, ln78 hl, al_e (by omega) (by decide), wx, if_neg c2, dn_e, lt_e, lt_e, hm, ln78 hl, al_e (by omega) (by decide), wx, p_rank, if_neg (nI_nlt (by omega) (by omega)), lt_e, lt_e, lt_e, w1, hm, sh68_16 hs1, dn_e, lt_e, e17, sh68_19 hs1, dn_e, lt_e, e20, ln78 hl, al_e (by omega) (by decide), e78, ln77 hl, as_e (by omega) (by decide), lt_e, e17', lt_e, nI_1, lt_e]
        exact ⟨_, nx.2⟩
      · rw [LX8_settle_0]
        dsimp only
        rw [lt_e, w1, if_neg (nI_nle (by omega) (by omega)), sh68_19 hs, dn_e, lt_e, lt_e, hm, ln78 hl, al_e (by omega) (by decide), wx, if_neg c2, dn_e, lt_e, lt_e, hm, ln78 hl, al_e (by omega) (by decide), wx, p_rank, if_neg (nI_nlt (by omega) (by omega)), lt_e, lt_e, lt_e, w1, hm, sh68_16 hs1, dn_e, lt_e, e17, sh68_19 hs1, dn_e, lt_e, e20, ln78 hl, al_e (by omega) (by decide), e78, ln77 hl, as_e (by omega) (by decide), lt_e, e17', lt_e, nI_1, lt_e]
        exact nx.2
theorem stl_len {r : Nat} : ∀ (W c : List Int32), (stl r W c).1.length + (stl r W c).2.length = W.length + c.length ∧ (stl r W c).1.length ≤ W.length := by
  intro W
  induction W with
  | nil => intro c; rw [stl]; exact ⟨rfl, Nat.le_refl _⟩
  | cons x V ih =>
    intro c
    rw [stl]
    by_cases q : x = -11 ∨ rk x < r
    · rw [if_pos q]; exact ⟨rfl, Nat.le_refl _⟩
    · rw [if_neg q]
      have := ih (c ++ [x])
      rw [List.length_append] at this
      simp at this ⊢
      omega
theorem cnt_cN {S : HC} : ∀ W : List Int32, WS S W → cnt (hI S 78) (-10) W.length = cN W := by
  intro W
  induction W with
  | nil => intro _; rfl
  | cons x V ih =>
    intro h
    rw [List.length_cons, cnt, cN, ih h.2, h.1]
    omega
theorem m_nots {ln : Nat → Nat} {t : Nat → Nat} {k key : Nat} {S : HC} {ts : List (Nat × Nat × Nat)} {c : List Int32} {a : Nat} {W : List Int32} {B : List Bool} {post : Int32 → HC → Prop} (hl : LN ln) (h : MMx t k key S ts c a W B) (h96 : W.length ≤ 96) (hp : post (nI (cN W)) S) : wpX8_notsOpen ln S 68 post := by
  have hs := h.1.2.2.1
  have w1 := h.2.2.1.1
  rw [← cnt_cN W h.2.2.1.2] at hp
  have kk : ∀ m i, i + m = W.length → LX8_notsOpen_4 ln post (m + 1) S 68 (nI (cnt (hI S 78) (-10) i)) (nI i) := by
    intro m
    induction m with
    | zero =>
      intro i hi
      rw [LX8_notsOpen_4]
      dsimp only
      rw [lt_e, w1, if_pos (nI_le (by omega) (by omega)), show i = W.length by omega]
      exact hp
    | succ m ih =>
      intro i hi
      have k2 := ih (i + 1) (by omega)
      rw [cnt] at k2
      rw [LX8_notsOpen_4]
      dsimp only
      unfold BX8_notsOpen_29
      rw [lt_e, w1, if_neg (nI_ge (by omega) (by omega)), sh68_19 hs, dn_e, ln78 hl, al_e (by omega) (by decide)]
      simp only [lt_e]
      by_cases q : hI S 78 i = -10
      · rw [if_pos q] at k2 ⊢
        rw [nI_1, nI_1]; exact k2
      · rw [if_neg q] at k2 ⊢
        rw [nI_1, show nI (cnt (hI S 78) (-10) i) + 0 = nI (cnt (hI S 78) (-10) i + 0) from nI_add _ 0]; exact k2
  exact ⟨W.length + 1, kk W.length 0 (by omega)⟩
