/-! text: the tape, word by word, the reference's side -/
def nmF (t : Nat → Nat) (q : Nat) : Nat → Nat
  | 0 => 0
  | j + 1 => 10 * nmF t q j + (t (q + j) - 48)
theorem sb_dig {x : Nat} (h : sb x = 2) : 48 ≤ x ∧ x ≤ 57 := by
  unfold sb at h
  by_cases c1 : 97 ≤ x ∧ x ≤ 122
  · rw [if_pos c1] at h; omega
  · rw [if_neg c1] at h
    by_cases c2 : 48 ≤ x ∧ x ≤ 57
    · exact c2
    · rw [if_neg c2] at h; omega
theorem nmF_lt {t : Nat → Nat} {q : Nat} : ∀ j, (∀ i, i < j → sb (t (q + i)) = 2) → nmF t q j < 10 ^ j := by
  intro j
  induction j with
  | zero => intro _; rw [nmF]; decide
  | succ j ih =>
    intro h
    have h1 := ih (fun i hi => h i (by omega))
    have h2 := sb_dig (h j (by omega))
    rw [nmF, Nat.pow_succ]
    omega
theorem nm_step {a b : Nat} (hb : 48 ≤ b) : (10 : Int32) * nI a + nI b - 48 = nI (10 * a + (b - 48)) := by
  rw [show (10 : Int32) * nI a = nI (10 * a) from pk_mul 10 a, nI_add, show nI (10 * a + b) - 48 = nI (10 * a + b - 48) from pk_sub (b := 48) (by omega), show 10 * a + b - 48 = 10 * a + (b - 48) by omega]
/-- the tape's bytes, the reference's -/
def TPm (S : HC) (t : Nat → Nat) (k : Nat) : Prop := k ≤ 96 ∧ hI S 68 7 = nI k ∧ ∀ j, j < k → hI S 74 j = nI (t j) ∧ t j < 256
theorem TPm.ag {S S' : HC} {t : Nat → Nat} {k : Nat} (h : TPm S t k) (e : ∀ r i, (r = 68 ∧ i = 7) ∨ r = 74 → hI S' r i = hI S r i) : TPm S' t k := ⟨h.1, by rw [e _ _ (Or.inl ⟨rfl, rfl⟩)]; exact h.2.1, fun j hj => by rw [e _ _ (Or.inr rfl)]; exact h.2.2 j hj⟩
theorem p_isLetter {ln : Nat → Nat} {S : HC} {t : Nat → Nat} {k p : Nat} {post : Int32 → HC → Prop} (hs : SH S) (hl : LN ln) (ht : TPm S t k) (hp : p < 1000) : wpX8_isLetter ln S 68 (nI p) post = post (bI (p < k ∧ sb (t p) = 1)) S := by
  have h96 := ht.1
  unfold wpX8_isLetter BX8_isLetter_34
  rw [lt_e, ht.2.1, rb_e0, rb_e1]
  by_cases q : p < k
  · have b := (ht.2.2 p q).2
    rw [if_neg (nI_ge q (by omega)), sh68_6 hs, dn_e, ln74 hl, al_e (by omega) (by decide), (ht.2.2 p q).1, dn_e, ln74 hl, al_e (by omega) (by decide), (ht.2.2 p q).1]
    unfold sb
    by_cases c1 : t p < 97
    · rw [if_pos (show nI (t p) < 97 from nI_lt (b := 97) c1 (by decide)), bI_f (fun u => by have u2 := u.2; rw [if_neg (by omega)] at u2; split at u2 <;> omega)]
    · rw [if_neg (show ¬ nI (t p) < 97 from nI_nlt (b := 97) (by omega) (by omega))]
      by_cases c2 : 122 < t p
      · rw [if_pos (show (122 : Int32) < nI (t p) from nI_lt (a := 122) c2 (by omega)), bI_f (fun u => by have u2 := u.2; rw [if_neg (by omega)] at u2; split at u2 <;> omega)]
      · rw [if_neg (show ¬ (122 : Int32) < nI (t p) from nI_nlt (a := 122) (by omega) (by decide)), bI_t ⟨q, by rw [if_pos (by omega)]⟩]
  · rw [if_pos (nI_le (by omega) (by omega)), bI_f (fun u => q u.1)]
theorem p_isFigure {ln : Nat → Nat} {S : HC} {t : Nat → Nat} {k p : Nat} {post : Int32 → HC → Prop} (hs : SH S) (hl : LN ln) (ht : TPm S t k) (hp : p < 1000) : wpX8_isFigure ln S 68 (nI p) post = post (bI (p < k ∧ sb (t p) = 2)) S := by
  have h96 := ht.1
  unfold wpX8_isFigure BX8_isFigure_34
  rw [lt_e, ht.2.1, rb_e0, rb_e1]
  by_cases q : p < k
  · have b := (ht.2.2 p q).2
    rw [if_neg (nI_ge q (by omega)), sh68_6 hs, dn_e, ln74 hl, al_e (by omega) (by decide), (ht.2.2 p q).1, dn_e, ln74 hl, al_e (by omega) (by decide), (ht.2.2 p q).1]
    unfold sb
    by_cases c1 : t p < 48
    · rw [if_pos (show nI (t p) < 48 from nI_lt (b := 48) c1 (by decide)), bI_f (fun u => by have u2 := u.2; rw [if_neg (by omega), if_neg (by omega)] at u2; omega)]
    · rw [if_neg (show ¬ nI (t p) < 48 from nI_nlt (b := 48) (by omega) (by omega))]
      by_cases c2 : 57 < t p
      · rw [if_pos (show (57 : Int32) < nI (t p) from nI_lt (a := 57) c2 (by omega)), bI_f (fun u => by have u2 := u.2; split at u2; omega; rw [if_neg (by omega)] at u2; omega)]
      · rw [if_neg (show ¬ (57 : Int32) < nI (t p) from nI_nlt (a := 57) (by omega) (by decide)), bI_t ⟨q, by rw [if_neg (by omega), if_pos (by omega)]⟩]
  · rw [if_pos (nI_le (by omega) (by omega)), bI_f (fun u => q u.1)]
def kdT (x : Nat × Nat × Nat) : Nat := if x.2.2 = 2 ∧ 4 < x.2.1 - x.1 then 4 else x.2.2
/-- the reference's reader stands at the first of these -/
def RTk (t : Nat → Nat) (k : Nat) (S : HC) : List (Nat × Nat × Nat) → Prop
  | [] => hI S 68 10 = 0 ∧ hI S 68 9 = nI k
  | x :: r => (hI S 68 9 = nI x.1 ∧ hI S 68 8 = nI x.2.1 ∧ hI S 68 10 = nI (kdT x)) ∧ ((x.2.2 = 1 ∨ x.2.2 = 3 → hI S 68 11 = nI (t x.1)) ∧ (x.2.2 = 2 ∧ x.2.1 - x.1 ≤ 4 → hI S 68 11 = nI (nmF t x.1 (x.2.1 - x.1)))) ∧ ((x.2.2 ≠ 3 → hI S 68 12 = nI x.2.1) ∧ (x.2.2 = 3 → ∀ j, x.2.1 ≤ j → j ≤ 96 → hI S 68 12 ≠ nI j)) ∧ TOK t k x.1 x.2.1 x.2.2 ∧ ∃ n, k - x.2.1 ≤ n ∧ r = lx t k n x.2.1 (decide (x.2.2 ≠ 3))
def FG (S S' : HC) : Prop := (∀ r i, ¬ (r = 68 ∧ 8 ≤ i ∧ i ≤ 12) → hI S' r i = hI S r i) ∧ ∀ r i, hR S' r i = hR S r i
theorem FG.rf (S : HC) : FG S S := ⟨fun _ _ _ => rfl, fun _ _ => rfl⟩
theorem FG.sI {S S' : HC} {i : Nat} {v : Int32} (h : FG S S') (hi : 8 ≤ i ∧ i ≤ 12) : FG S (sI S' 68 i v) := ⟨fun r j u => by rw [hI_ne (by omega)]; exact h.1 r j u, h.2⟩
theorem FG.sh {S S' : HC} (h : FG S S') (hs : SH S) : SH S' := hs.of (fun _ _ => h.2 _ _)
theorem FG.tp {S S' : HC} {t : Nat → Nat} {k : Nat} (h : FG S S') (ht : TPm S t k) : TPm S' t k := ht.ag (fun r i u => h.1 r i (by omega))
theorem FG.tr {S S' S'' : HC} (h : FG S S') (h2 : FG S' S'') : FG S S'' := ⟨fun r i u => (h2.1 r i u).trans (h.1 r i u), fun r i => (h2.2 r i).trans (h.2 r i)⟩
theorem p_go {ln : Nat → Nat} {S : HC} {t : Nat → Nat} {k p n : Nat} {g : Bool} {post : HC → Prop} (hs : SH S) (hl : LN ln) (ht : TPm S t k) (h8 : hI S 68 8 = nI p) (hp : p ≤ k) (hg1 : g = true → hI S 68 12 = nI p) (hg0 : g = false → ∀ j, p ≤ j → j ≤ 96 → hI S 68 12 ≠ nI j) (hn : k - p ≤ n) (h : ∀ S', RTk t k S' (lx t k n p g) → FG S S' → post S') : wpX8_go ln S 68 post := by
  have h96 := ht.1
  have letters : ∀ m e S' (w : Int32) (q : Nat), e + m = k → FG S S' → hI S' 68 9 = nI q → hI S' 68 8 = nI e → (∀ S2, FG S S2 → hI S2 68 9 = nI q → hI S2 68 8 = nI (we t k 1 m e) → (if w = 0 then BX8_go_127 ln post S2 68 68 1 else BX8_go_127 ln post S2 68 68 4)) → LX8_go_93 ln post (m + 1) S' 68 w := by
    intro m
    induction m with
    | zero =>
      intro e S' w q he hF e9 e8 hk
      rw [LX8_go_93]
      dsimp only
      rw [lt_e, e8, p_isLetter (hF.sh hs) hl (hF.tp ht) (by omega), bI_f (by omega), if_pos rfl]
      exact hk S' hF e9 e8
    | succ m ih =>
      intro e S' w q he hF e9 e8 hk
      rw [LX8_go_93]
      dsimp only
      rw [lt_e, e8, p_isLetter (hF.sh hs) hl (hF.tp ht) (by omega)]
      rw [we] at hk
      by_cases c : e < k ∧ sb (t e) = 1
      · rw [if_pos c] at hk
        rw [bI_t c, if_neg (by decide), lt_e, e8, lt_e, nI_1, lt_e]
        exact ih (e + 1) _ w q (by omega) (hF.sI (by decide)) (by rw [hI_ne (by decide)]; exact e9) (hI_self _ _ _ _) hk
      · rw [if_neg c] at hk
        rw [bI_f c, if_pos rfl]
        exact hk S' hF e9 e8
  have figures : ∀ m e S' (w : Int32) (q : Nat), e + m = k → q ≤ e → FG S S' → (∀ i, q ≤ i → i < e → sb (t i) = 2) → hI S' 68 9 = nI q → hI S' 68 8 = nI e → (e - q ≤ 4 → hI S' 68 11 = nI (nmF t q (e - q))) → (∀ S2, FG S S2 → hI S2 68 9 = nI q → hI S2 68 8 = nI (we t k 2 m e) → (we t k 2 m e - q ≤ 4 → hI S2 68 11 = nI (nmF t q (we t k 2 m e - q))) → (if w = 0 ∧ we t k 2 m e - q ≤ 4 then BX8_go_261 ln post S2 68 68 2 else BX8_go_256 ln post S2 68 68)) → LX8_go_170 ln post (m + 1) S' 68 w := by
    intro m
    induction m with
    | zero =>
      intro e S' w q he hqe hF hd e9 e8 e11 hk
      rw [LX8_go_170]
      dsimp only
      rw [lt_e, e8, p_isFigure (hF.sh hs) hl (hF.tp ht) (by omega), bI_f (by omega), if_pos rfl]
      have k2 := hk S' hF e9 e8 e11
      rw [we] at k2
      by_cases cw : w = 0
      · rw [if_pos cw, lt_e, lt_e, e8, e9, lt_e, pk_sub hqe]
        by_cases c4 : e - q ≤ 4
        · rw [if_pos ⟨cw, c4⟩] at k2
          rw [if_pos (show nI (e - q) ≤ 4 from nI_le (b := 4) c4 (by decide))]; exact k2
        · rw [if_neg (fun u => c4 u.2)] at k2
          rw [if_neg (show ¬ nI (e - q) ≤ 4 from nI_ge (a := 4) (by omega) (by omega))]; exact k2
      · rw [if_neg (fun u => cw u.1)] at k2
        rw [if_neg cw]; exact k2
    | succ m ih =>
      intro e S' w q he hqe hF hd e9 e8 e11 hk
      rw [LX8_go_170]
      dsimp only
      rw [lt_e, e8, p_isFigure (hF.sh hs) hl (hF.tp ht) (by omega)]
      rw [we] at hk
      by_cases c : e < k ∧ sb (t e) = 2
      · rw [if_pos c] at hk
        have dg := sb_dig c.2
        have b := ht.2.2 e c.1
        have tt := (hF.tp ht).2.2 e c.1
        rw [bI_t c, if_neg (by decide), lt_e, lt_e, e8, e9, lt_e, pk_sub hqe]
        have hd2 : ∀ i, q ≤ i → i < e + 1 → sb (t i) = 2 := fun i u1 u2 => by
          by_cases u : i = e
          · rw [u]; exact c.2
          · exact hd i u1 (by omega)
        unfold BX8_go_222
        by_cases c4 : 4 ≤ e - q
        · rw [if_pos (show (4 : Int32) ≤ nI (e - q) from nI_le (a := 4) c4 (by omega))]
          simp only [lt_e]
          rw [hI_ne (by decide), e8, nI_1]
          exact ih (e + 1) _ w q (by omega) (by omega) ((hF.sI (by decide)).sI (by decide)) hd2 (by rw [hI_ne (by decide), hI_ne (by decide)]; exact e9) (hI_self _ _ _ _) (fun u => by omega) hk
        · rw [if_neg (show ¬ (4 : Int32) ≤ nI (e - q) from nI_ge (b := 4) (by omega) (by decide)), lt_e, lt_e, sh68_6 (hF.sh hs), dn_e, lt_e, ln74 hl, al_e (by omega) (by decide), tt.1, e11 (by omega)]
          simp only [lt_e]
          rw [nm_step dg.1, hI_ne (by decide), e8, nI_1]
          refine ih (e + 1) _ w q (by omega) (by omega) ((hF.sI (by decide)).sI (by decide)) hd2 (by rw [hI_ne (by decide), hI_ne (by decide)]; exact e9) (hI_self _ _ _ _) (fun u => ?_) hk
          rw [hI_ne (by decide), hI_self, show e + 1 - q = (e - q) + 1 by omega, nmF, show q + (e - q) = e by omega]
      · rw [if_neg c] at hk
        rw [bI_f c, if_pos rfl]
        have k2 := hk S' hF e9 e8 e11
        by_cases cw : w = 0
        · rw [if_pos cw, lt_e, lt_e, e8, e9, lt_e, pk_sub hqe]
          by_cases c4 : e - q ≤ 4
          · rw [if_pos ⟨cw, c4⟩] at k2
            rw [if_pos (show nI (e - q) ≤ 4 from nI_le (b := 4) c4 (by decide))]; exact k2
          · rw [if_neg (fun u => c4 u.2)] at k2
            rw [if_neg (show ¬ nI (e - q) ≤ 4 from nI_ge (a := 4) (by omega) (by omega))]; exact k2
        · rw [if_neg (fun u => cw u.1)] at k2
          rw [if_neg cw]; exact k2
  have body : ∀ (S' : HC) (q : Nat), q = sk t k (k - p) p → FG S S' → hI S' 68 8 = nI q → hI S' 68 12 = hI S 68 12 → BX8_go_38 ln post S' 68 := by
    intro S' q eq hF e8 e12
    have hq := sk_le (t := t) (k := k) (k - p) p
    rw [← eq] at hq
    have hqk := hq.2 hp
    have hF1 : FG S (sI S' 68 9 (nI q)) := hF.sI (by decide)
    have fin : ∀ w : Int32, (w = 0 ∨ w = 1) → (w = 1 ↔ g = true ∧ q = p) → BX8_go_62 ln post (sI S' 68 9 (nI q)) 68 w := fun w hw01 hw => by
      have e9' : hI (sI S' 68 9 (nI q)) 68 9 = nI q := hI_self _ _ _ _
      have e8' : hI (sI S' 68 9 (nI q)) 68 8 = nI q := by rw [hI_ne (by decide)]; exact e8
      have e12' : hI (sI S' 68 9 (nI q)) 68 12 = hI S 68 12 := by rw [hI_ne (by decide)]; exact e12
      generalize sI S' 68 9 (nI q) = S1 at hF1 e9' e8' e12'
      have hs1 := hF1.sh hs
      have ht1 := hF1.tp ht
      unfold BX8_go_62
      rw [lt_e, e9', lt_e, ht1.2.1]
      by_cases c : q < k
      · have b := ht.2.2 q c
        have b1 := ht1.2.2 q c
        have sl := sb_le (t q)
        obtain ⟨n', en⟩ : ∃ n', n = n' + 1 := ⟨n - 1, by omega⟩
        have lxe : lx t k n p g = tk1 t k p g :: lx t k n' (tk1 t k p g).2.1 (decide ((tk1 t k p g).2.2 ≠ 3)) := by
          rw [en, lx, if_pos (by rw [← eq]; exact c)]
        obtain ⟨tok, tp⟩ := tk1_ok (t := t) (k := k) (p := p) (g := g) (by rw [← eq]; exact c)
        have t0 : (tk1 t k p g).1 = q := by rw [eq]; rfl
        have t1 : (tk1 t k p g).2.1 = if sb (t q) = 3 then q + 1 else we t k (sb (t q)) (k - q) q := by rw [eq]; rfl
        have t2 : (tk1 t k p g).2.2 = if sb (t q) ≠ 3 ∧ g = true ∧ q = p then 4 else sb (t q) := by rw [eq]; rfl
        have out : ∀ S2, FG S S2 → (hI S2 68 9 = nI q ∧ hI S2 68 8 = nI (tk1 t k p g).2.1 ∧ hI S2 68 10 = nI (kdT (tk1 t k p g))) → (((tk1 t k p g).2.2 = 1 ∨ (tk1 t k p g).2.2 = 3 → hI S2 68 11 = nI (t q)) ∧ ((tk1 t k p g).2.2 = 2 ∧ (tk1 t k p g).2.1 - q ≤ 4 → hI S2 68 11 = nI (nmF t q ((tk1 t k p g).2.1 - q)))) → (((tk1 t k p g).2.2 ≠ 3 → hI S2 68 12 = nI (tk1 t k p g).2.1) ∧ ((tk1 t k p g).2.2 = 3 → ∀ j, (tk1 t k p g).2.1 ≤ j → j ≤ 96 → hI S2 68 12 ≠ nI j)) → post S2 := fun S2 f2 a1 a2 a3 => by
          refine h S2 ?_ f2
          rw [lxe]
          refine ⟨by rw [t0]; exact a1, by rw [t0]; exact a2, a3, tok, n', ?_, rfl⟩
          have := tok.1.1
          omega
        rw [if_neg (fun u => by have := (nI_eq (by omega) (by omega)).mp u; omega), lt_e, p_isLetter hs1 hl ht1 (by omega)]
        by_cases c1 : sb (t q) = 1
        · rw [bI_t ⟨c, c1⟩, if_neg (by decide)]
          refine ⟨k - q + 1, letters (k - q) q S1 w q (by omega) hF1 e9' e8' (fun S2 f2 a9 a8 => ?_)⟩
          have a8' : hI S2 68 8 = nI (tk1 t k p g).2.1 := by rw [a8, t1, if_neg (by omega), c1]
          have out2 : ∀ z : Nat, z = (tk1 t k p g).2.2 → (z = 1 ∨ z = 4) → BX8_go_127 ln post S2 68 68 (nI z) := fun z ez hz => by
            have ek : kdT (tk1 t k p g) = z := by unfold kdT; rw [if_neg (by omega), ez]
            unfold BX8_go_127
            rw [lt_e, sh68_6 ((f2.sh hs).sI _ _ _), dn_e, lt_e, hI_ne (by decide), a9, ln74 hl, al_e (by omega) (by decide), hI_row (by decide), ((f2.tp ht).2.2 q c).1]
            simp only [lt_e]
            have f3 : hI (sI (sI S2 68 10 (nI z)) 68 11 (nI (t q))) 68 8 = nI (tk1 t k p g).2.1 := by rw [hI_ne (by decide), hI_ne (by decide)]; exact a8'
            rw [f3]
            refine out _ (((f2.sI (by decide)).sI (by decide)).sI (by decide)) ⟨?_, ?_, ?_⟩ ⟨fun _ => ?_, fun u => by omega⟩ ⟨fun _ => hI_self _ _ _ _, fun u => by omega⟩
            · rw [hI_ne (by decide), hI_ne (by decide), hI_ne (by decide)]; exact a9
            · rw [hI_ne (by decide)]; exact f3
            · rw [hI_ne (by decide), hI_ne (by decide), hI_self, ek]
            · rw [hI_ne (by decide), hI_self]
          by_cases cw : w = 0
          · rw [if_pos cw]
            exact out2 1 (by rw [t2, if_neg (fun u => by have := hw.mpr u.2; rw [cw] at this; exact absurd this (by decide)), c1]) (Or.inl rfl)
          · rw [if_neg cw]
            have w1 : w = 1 := hw01.resolve_left cw
            exact out2 4 (by rw [t2, if_pos ⟨by omega, hw.mp w1⟩]) (Or.inr rfl)
        · rw [bI_f (fun u => c1 u.2), if_pos rfl, lt_e, e9', p_isFigure hs1 hl ht1 (by omega)]
          by_cases c2 : sb (t q) = 2
          · rw [bI_t ⟨c, c2⟩, if_neg (by decide), lt_e]
            refine ⟨k - q + 1, figures (k - q) q _ w q (by omega) (Nat.le_refl _) (hF1.sI (by decide)) (fun i u1 u2 => by omega) (by rw [hI_ne (by decide)]; exact e9') (by rw [hI_ne (by decide)]; exact e8') (fun _ => by rw [hI_self, Nat.sub_self]; rfl) (fun S2 f2 a9 a8 a11 => ?_)⟩
            have et : (tk1 t k p g).2.1 = we t k 2 (k - q) q := by rw [t1, if_neg (by omega), c2]
            rw [← et] at a8 a11 ⊢
            have out2 : ∀ z : Nat, z = kdT (tk1 t k p g) → BX8_go_261 ln post S2 68 68 (nI z) := fun z ez => by
              unfold BX8_go_261
              simp only [lt_e]
              have f3 : hI (sI S2 68 10 (nI z)) 68 8 = nI (tk1 t k p g).2.1 := by rw [hI_ne (by decide)]; exact a8
              rw [f3]
              have n3 : (tk1 t k p g).2.2 ≠ 3 ∧ (tk1 t k p g).2.2 ≠ 1 := by rw [t2]; split <;> omega
              refine out _ ((f2.sI (by decide)).sI (by decide)) ⟨?_, ?_, ?_⟩ ⟨fun u => absurd u (by omega), fun u => ?_⟩ ⟨fun _ => hI_self _ _ _ _, fun u => absurd u n3.1⟩
              · rw [hI_ne (by decide), hI_ne (by decide)]; exact a9
              · rw [hI_ne (by decide)]; exact f3
              · rw [hI_ne (by decide), hI_self, ez]
              · rw [hI_ne (by decide), hI_ne (by decide)]; exact a11 u.2
            by_cases cw : w = 0 ∧ (tk1 t k p g).2.1 - q ≤ 4
            · rw [if_pos cw]
              refine out2 2 ?_
              unfold kdT
              have e2 : (tk1 t k p g).2.2 = 2 := by rw [t2, if_neg (fun u => by have := hw.mpr u.2; rw [cw.1] at this; exact absurd this (by decide)), c2]
              rw [if_neg (by rw [t0]; omega), e2]
            · rw [if_neg cw]
              unfold BX8_go_256
              refine out2 4 ?_
              unfold kdT
              by_cases cz : w = 0
              · have e2 : (tk1 t k p g).2.2 = 2 := by rw [t2, if_neg (fun u => by have := hw.mpr u.2; rw [cz] at this; exact absurd this (by decide)), c2]
                rw [if_pos ⟨e2, by rw [t0]; exact Nat.lt_of_not_le (fun u => cw ⟨cz, u⟩)⟩]
              · have e4 : (tk1 t k p g).2.2 = 4 := by rw [t2, if_pos ⟨by omega, hw.mp (hw01.resolve_left cz)⟩]
                rw [if_neg (by omega), e4]
          · have c3 : sb (t q) = 3 := by omega
            have e3 : (tk1 t k p g).2.2 = 3 := by rw [t2, if_neg (fun u => u.1 c3), c3]
            have e1 : (tk1 t k p g).2.1 = q + 1 := by rw [t1, if_pos c3]
            rw [bI_f (fun u => c2 u.2), if_pos rfl, lt_e, sh68_6 (hs1.sI _ _ _), dn_e, lt_e, hI_ne (by decide), e9', ln74 hl, al_e (by omega) (by decide), hI_row (by decide), b1.1]
            simp only [lt_e]
            have f3 : hI (sI (sI S1 68 10 3) 68 11 (nI (t q))) 68 8 = nI q := by rw [hI_ne (by decide), hI_ne (by decide)]; exact e8'
            rw [f3, nI_1]
            refine out _ (((hF1.sI (by decide)).sI (by decide)).sI (by decide)) ⟨?_, ?_, ?_⟩ ⟨fun _ => ?_, fun u => by omega⟩ ⟨fun u => absurd e3 u, fun _ j j1 j2 => ?_⟩
            · rw [hI_ne (by decide), hI_ne (by decide), hI_ne (by decide)]; exact e9'
            · rw [hI_self, e1]
            · rw [hI_ne (by decide), hI_ne (by decide), hI_self]
              unfold kdT
              rw [if_neg (by omega), e3]
              rfl
            · rw [hI_ne (by decide), hI_self]
            · rw [hI_ne (by decide), hI_ne (by decide), hI_ne (by decide), e12']
              cases g with
              | true =>
                rw [hg1 rfl]
                exact fun u => by have := (nI_eq (by omega) (by omega)).mp u; omega
              | false => exact hg0 rfl j (by omega) j2
      · have eqk : q = k := by omega
        have lxe : lx t k n p g = [] := by
          cases n with
          | zero => rfl
          | succ n => rw [lx, if_neg (by rw [← eq]; exact c)]
        rw [if_pos (by rw [eqk]), lt_e]
        refine h _ ?_ (hF1.sI (by decide))
        rw [lxe]
        exact ⟨hI_self _ _ _ _, by rw [hI_ne (by decide), e9', eqk]⟩
    unfold BX8_go_38
    rw [lt_e, e8, lt_e, lt_e, hI_self, lt_e, hI_ne (by decide), e12]
    cases g with
    | true =>
      rw [hg1 rfl]
      by_cases c : q = p
      · rw [if_pos (by rw [c])]; exact fin 1 (Or.inr rfl) ⟨fun _ => ⟨rfl, c⟩, fun _ => rfl⟩
      · rw [if_neg (fun u => c ((nI_eq (by omega) (by omega)).mp u))]
        exact fin 0 (Or.inl rfl) ⟨fun u => absurd u (by decide), fun u => absurd u.2 c⟩
    | false =>
      rw [if_neg (fun u => hg0 rfl q hq.1 (by omega) u.symm)]
      exact fin 0 (Or.inl rfl) ⟨fun u => absurd u (by decide), fun u => absurd u.1 (by decide)⟩
  have skip : ∀ m q S', q + m = k → FG S S' → hI S' 68 8 = nI q → hI S' 68 12 = hI S 68 12 → sk t k m q = sk t k (k - p) p → LX8_go_0 ln post (m + 1) S' 68 := by
    intro m
    induction m with
    | zero =>
      intro q S' hq hF e8 e12 es
      rw [LX8_go_0]
      dsimp only
      rw [lt_e, e8, lt_e, (hF.tp ht).2.1, if_pos (nI_le (by omega) (by omega))]
      exact body S' q (by rw [← es, sk]) hF e8 e12
    | succ m ih =>
      intro q S' hq hF e8 e12 es
      have b := (ht.2.2 q (by omega)).2
      rw [LX8_go_0]
      dsimp only
      rw [lt_e, e8, lt_e, (hF.tp ht).2.1, if_neg (nI_ge (by omega) (by omega)), sh68_6 (hF.sh hs), dn_e, lt_e, ln74 hl, al_e (by omega) (by decide), ((hF.tp ht).2.2 q (by omega)).1]
      rw [sk] at es
      by_cases c : t q = 32
      · rw [if_pos ⟨by omega, c⟩] at es
        rw [if_pos (by rw [c]; rfl), lt_e, lt_e, nI_1, lt_e]
        exact ih (q + 1) _ (by omega) (hF.sI (by decide)) (hI_self _ _ _ _) (by rw [hI_ne (by decide)]; exact e12) es
      · rw [if_neg (fun u => c u.2)] at es
        rw [if_neg (show ¬ nI (t q) = 32 from fun u => c ((nI_eq (b := 32) (by omega) (by decide)).mp u))]
        exact body S' q es hF e8 e12
  unfold wpX8_go
  rw [lt_e, h8, lt_e, ht.2.1]
  by_cases c : k ≤ p
  · rw [if_pos (nI_le c (by omega))]
    exact body S p (by rw [show k - p = 0 by omega, sk]) (FG.rf S) h8 rfl
  · have b := (ht.2.2 p (by omega)).2
    rw [if_neg (nI_ge (by omega) (by omega)), sh68_6 hs, dn_e, lt_e, ln74 hl, al_e (by omega) (by decide), (ht.2.2 p (by omega)).1]
    obtain ⟨d, hd⟩ : ∃ d, k - p = d + 1 := ⟨k - p - 1, by omega⟩
    by_cases c2 : t p = 32
    · rw [if_pos (by rw [c2]; rfl), lt_e, lt_e, nI_1, lt_e]
      refine ⟨d + 1, skip d (p + 1) _ (by omega) ((FG.rf S).sI (by decide)) (hI_self _ _ _ _) (hI_ne (by decide)) ?_⟩
      rw [hd, sk, if_pos ⟨by omega, c2⟩]
    · rw [if_neg (show ¬ nI (t p) = 32 from fun u => c2 ((nI_eq (b := 32) (by omega) (by decide)).mp u))]
      exact body S p (by rw [hd, sk, if_neg (fun u => c2 u.2)]) (FG.rf S) h8 rfl
