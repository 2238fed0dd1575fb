/-! text: the tape, word by word and sign by sign -/
def sb (x : Nat) : Nat := if 97 ≤ x ∧ x ≤ 122 then 1 else if 48 ≤ x ∧ x ≤ 57 then 2 else 3
theorem sb_le (x : Nat) : 1 ≤ sb x ∧ sb x ≤ 3 := by
  unfold sb
  by_cases c1 : 97 ≤ x ∧ x ≤ 122
  · rw [if_pos c1]; omega
  · rw [if_neg c1]
    by_cases c2 : 48 ≤ x ∧ x ≤ 57
    · rw [if_pos c2]; omega
    · rw [if_neg c2]; omega
def sk (t : Nat → Nat) (k : Nat) : Nat → Nat → Nat
  | 0, p => p
  | n + 1, p => if p < k ∧ t p = 32 then sk t k n (p + 1) else p
theorem sk_le {t : Nat → Nat} {k : Nat} : ∀ n p, p ≤ sk t k n p ∧ (p ≤ k → sk t k n p ≤ k) := by
  intro n
  induction n with
  | zero => intro p; exact ⟨Nat.le_refl _, fun h => h⟩
  | succ n ih =>
    intro p
    rw [sk]
    split
    · next q => have := ih (p + 1); exact ⟨by omega, fun _ => this.2 (by omega)⟩
    · exact ⟨Nat.le_refl _, fun h => h⟩
def we (t : Nat → Nat) (k s : Nat) : Nat → Nat → Nat
  | 0, p => p
  | n + 1, p => if p < k ∧ sb (t p) = s then we t k s n (p + 1) else p
theorem we_le {t : Nat → Nat} {k s : Nat} : ∀ n p, p ≤ we t k s n p ∧ (p ≤ k → we t k s n p ≤ k) ∧ ∀ j, p ≤ j → j < we t k s n p → sb (t j) = s := by
  intro n
  induction n with
  | zero => intro p; exact ⟨Nat.le_refl _, fun h => h, fun j h1 h2 => by rw [we] at h2; omega⟩
  | succ n ih =>
    intro p
    rw [we]
    split
    · next q =>
      obtain ⟨i1, i2, i3⟩ := ih (p + 1)
      refine ⟨by omega, fun _ => i2 (by omega), fun j h1 h2 => ?_⟩
      by_cases e : j = p
      · rw [e]; exact q.2
      · exact i3 j (by omega) h2
    · exact ⟨Nat.le_refl _, fun h => h, fun j h1 h2 => by omega⟩
theorem we_pos {t : Nat → Nat} {k n p : Nat} (h : p < k) : p < we t k (sb (t p)) (n + 1) p := by
  rw [we, if_pos ⟨h, rfl⟩]
  have := (we_le (t := t) (k := k) (s := sb (t p)) n (p + 1)).1
  omega
/-- the word or sign from p on: where it begins, where it ends, what it is (4: a word that needs a blank ahead of it) -/
def tk1 (t : Nat → Nat) (k p : Nat) (g : Bool) : Nat × Nat × Nat := (sk t k (k - p) p, if sb (t (sk t k (k - p) p)) = 3 then sk t k (k - p) p + 1 else we t k (sb (t (sk t k (k - p) p))) (k - sk t k (k - p) p) (sk t k (k - p) p), if sb (t (sk t k (k - p) p)) ≠ 3 ∧ g = true ∧ sk t k (k - p) p = p then 4 else sb (t (sk t k (k - p) p)))
def lx (t : Nat → Nat) (k : Nat) : Nat → Nat → Bool → List (Nat × Nat × Nat)
  | 0, _, _ => []
  | n + 1, p, g => if sk t k (k - p) p < k then tk1 t k p g :: lx t k n (tk1 t k p g).2.1 (decide ((tk1 t k p g).2.2 ≠ 3)) else []
def TOK (t : Nat → Nat) (k q e s : Nat) : Prop := (q < e ∧ e ≤ k) ∧ (1 ≤ s ∧ s ≤ 4) ∧ (s ≠ 4 → sb (t q) = s) ∧ (s = 3 → e = q + 1) ∧ (s = 1 ∨ s = 2 → ∀ j, q ≤ j → j < e → sb (t j) = s)
theorem tk1_ok {t : Nat → Nat} {k p : Nat} {g : Bool} (h : sk t k (k - p) p < k) : TOK t k (tk1 t k p g).1 (tk1 t k p g).2.1 (tk1 t k p g).2.2 ∧ p ≤ (tk1 t k p g).1 := by
  have h1 := (sk_le (t := t) (k := k) (k - p) p).1
  have hs := sb_le (t (sk t k (k - p) p))
  unfold tk1
  generalize sk t k (k - p) p = q at *
  obtain ⟨d, hd⟩ : ∃ d, k - q = d + 1 := ⟨k - q - 1, by omega⟩
  have hp := we_pos (t := t) (n := d) h
  have hw := we_le (t := t) (k := k) (s := sb (t q)) (k - q) q
  rw [← hd] at hp
  dsimp only
  refine ⟨⟨?_, ?_, fun u => ?_, fun u => ?_, fun u => ?_⟩, h1⟩
  · by_cases c : sb (t q) = 3
    · rw [if_pos c]; omega
    · rw [if_neg c]; exact ⟨hp, hw.2.1 (by omega)⟩
  · split <;> omega
  · split at u
    · exact absurd rfl u
    · next c => rw [if_neg c]
  · by_cases c : sb (t q) = 3
    · rw [if_pos c]
    · exfalso
      split at u
      · omega
      · exact c u
  · by_cases c : sb (t q) ≠ 3 ∧ g = true ∧ q = p
    · rw [if_pos c] at u; omega
    · rw [if_neg c] at u ⊢
      rw [if_neg (by omega)]
      exact hw.2.2
/-- the tape's bytes -/
def TP (S : HC) (t : Nat → Nat) (k : Nat) : Prop := k ≤ 96 ∧ hI S 38 1 = nI k ∧ ∀ j, j < k → hI S 39 j = nI (t j) ∧ t j < 256
theorem TP.ag {S S' : HC} {t : Nat → Nat} {k : Nat} (h : TP S t k) (e : ∀ r i, r = 38 ∨ r = 39 → hI S' r i = hI S r i) : TP S' t k := ⟨h.1, by rw [e _ _ (Or.inl rfl)]; exact h.2.1, fun j hj => by rw [e _ _ (Or.inr rfl)]; exact h.2.2 j hj⟩
theorem p_at {ln : Nat → Nat} {S : HC} {t : Nat → Nat} {k p : Nat} {post : Int32 → HC → Prop} (hs : SH S) (hl : LN ln) (ht : TP S t k) (hp : p < 1000) : wpX6_at ln S 38 (nI p) post = post (if p < k then nI (t p) else -1) S := by
  unfold wpX6_at BX6_at_27
  rw [if_neg (nI_pos (by omega)), lt_e, ht.2.1]
  have h96 := ht.1
  by_cases q : p < k
  · rw [if_neg (nI_ge q (by omega)), if_neg (show ¬ (96 : Int32) ≤ nI p from nI_ge (b := 96) (by omega) (by decide)), sh38_0 hs, dn_e, ln39 hl, al_e (by omega) (by decide), (ht.2.2 p q).1, if_pos q]
  · rw [if_pos (nI_le (by omega) (by omega)), if_neg q]
theorem p_sort {ln : Nat → Nat} {S : HC} {b : Nat} {post : Int32 → HC → Prop} (hb : b < 256) : wpX2_sortOf ln S (nI b) post = post (nI (sb b)) S := by
  unfold wpX2_sortOf BX2_sortOf_20 BX2_sortOf_36 sb
  rw [if_pos (nI_pos' (by omega))]
  by_cases c1 : b < 97
  · rw [if_pos (show nI b < 97 from nI_lt (b := 97) c1 (by decide)), if_neg (show ¬ (97 ≤ b ∧ b ≤ 122) by omega)]
    by_cases c2 : b < 48
    · rw [if_pos (show nI b < 48 from nI_lt (b := 48) c2 (by decide)), if_neg (by omega)]
      rfl
    · rw [if_neg (show ¬ nI b < 48 from nI_nlt (b := 48) (by omega) (by omega))]
      by_cases c3 : 57 < b
      · rw [if_pos (show (57 : Int32) < nI b from nI_lt (a := 57) c3 (by omega)), if_neg (by omega)]
        rfl
      · rw [if_neg (show ¬ (57 : Int32) < nI b from nI_nlt (a := 57) (by omega) (by decide)), if_pos (by omega)]
        rfl
  · rw [if_neg (show ¬ nI b < 97 from nI_nlt (b := 97) (by omega) (by omega))]
    by_cases c2 : 122 < b
    · rw [if_pos (show (122 : Int32) < nI b from nI_lt (a := 122) c2 (by omega)), if_neg (show ¬ nI b < 48 from nI_nlt (b := 48) (by omega) (by omega)), if_pos (show (57 : Int32) < nI b from nI_lt (a := 57) (by omega) (by omega)), if_neg (by omega), if_neg (by omega)]
      rfl
    · rw [if_neg (show ¬ (122 : Int32) < nI b from nI_nlt (a := 122) (by omega) (by decide)), if_pos (show 97 ≤ b ∧ b ≤ 122 by omega)]
      rfl
theorem p_sort0 {ln : Nat → Nat} {S : HC} {post : Int32 → HC → Prop} : wpX2_sortOf ln S (-1) post = post 0 S := by
  unfold wpX2_sortOf
  rw [if_neg (by decide)]
/-- the class's reader stands at the first of these -/
def CT (t : Nat → Nat) (k : Nat) (S : HC) : List (Nat × Nat × Nat) → Prop
  | [] => hI S 37 1 = 0 ∧ hI S 37 2 = nI k
  | x :: r => (hI S 37 1 = nI x.2.2 ∧ hI S 37 2 = nI x.1 ∧ hI S 37 3 = nI x.2.1) ∧ TOK t k x.1 x.2.1 x.2.2 ∧ ∃ n, k - x.2.1 ≤ n ∧ r = lx t k n x.2.1 (decide (x.2.2 ≠ 3))
def FA (S S' : HC) : Prop := (∀ r i, ¬ (r = 37 ∧ (i = 1 ∨ i = 2 ∨ i = 3)) → hI S' r i = hI S r i) ∧ ∀ r i, hR S' r i = hR S r i
theorem FA.rf (S : HC) : FA S S := ⟨fun _ _ _ => rfl, fun _ _ => rfl⟩
theorem FA.sI {S S' : HC} {i : Nat} {v : Int32} (h : FA S S') (hi : i = 1 ∨ i = 2 ∨ i = 3) : FA S (sI S' 37 i v) := ⟨fun r j u => by rw [hI_ne (by omega)]; exact h.1 r j u, h.2⟩
theorem FA.sh {S S' : HC} (h : FA S S') (hs : SH S) : SH S' := hs.of (fun _ _ => h.2 _ _)
theorem FA.tp {S S' : HC} {t : Nat → Nat} {k : Nat} (h : FA S S') (ht : TP S t k) : TP S' t k := ht.ag (fun r i u => h.1 r i (by omega))
theorem p_adv {ln : Nat → Nat} {S : HC} {t : Nat → Nat} {k p s0 n : Nat} {post : HC → Prop} (hs : SH S) (hl : LN ln) (ht : TP S t k) (h1 : hI S 37 1 = nI s0) (hs0 : s0 ≤ 3) (h3 : hI S 37 3 = nI p) (hp : p ≤ k) (hn : k - p ≤ n) (h : ∀ S', CT t k S' (lx t k n p (decide (s0 = 1 ∨ s0 = 2))) → FA S S' → post S') : wpX2_advance ln S 37 post := by
  have h96 := ht.1
  -- the word's end
  have wend : ∀ m e S' (w g : Int32) (q s : Nat), e + m = k → FA S S' → hI S' 37 1 = nI s → hI S' 37 2 = nI q → hI S' 37 3 = nI e → (s = 1 ∨ s = 2) → (∀ S2, FA S S2 → hI S2 37 1 = nI s → hI S2 37 2 = nI q → hI S2 37 3 = nI (we t k s m e) → BX2_advance_192 ln post S2 37 w g) → LX2_advance_144 ln post (m + 1) S' 37 w g := by
    intro m
    induction m with
    | zero =>
      intro e S' w g q s he hF e1 e2 e3 hsx hk
      rw [LX2_advance_144]
      dsimp only
      rw [lt_e, e3, sh37_0 (hF.sh hs), dn_e, lt_e, (hF.tp ht).2.1, if_pos (nI_le (by omega) (by omega))]
      exact hk S' hF e1 e2 e3
    | succ m ih =>
      intro e S' w g q s he hF e1 e2 e3 hsx hk
      have b := (ht.2.2 e (by omega)).2
      rw [LX2_advance_144]
      dsimp only
      rw [lt_e, e3, sh37_0 (hF.sh hs), dn_e, lt_e, (hF.tp ht).2.1, if_neg (nI_ge (by omega) (by omega)), dn_e, lt_e, p_at (hF.sh hs) hl (hF.tp ht) (by omega), if_pos (show e < k by omega), p_sort b, lt_e, e1]
      rw [we] at hk
      by_cases c : sb (t e) = s
      · rw [if_pos ⟨by omega, c⟩] at hk
        rw [if_pos (by rw [c]), lt_e, e3, lt_e, nI_1, lt_e]
        exact ih (e + 1) _ w g q s (by omega) (hF.sI (Or.inr (Or.inr rfl))) (by rw [hI_ne (by decide)]; exact e1) (by rw [hI_ne (by decide)]; exact e2) (hI_self _ _ _ _) hsx hk
      · rw [if_neg (fun u => c u.2)] at hk
        have := sb_le (t e)
        rw [if_neg (fun u => c ((nI_eq (by omega) (by omega)).mp u))]
        exact hk S' hF e1 e2 e3
  -- the word or sign from q on
  have body : ∀ (S' : HC) (q : Nat) (w : Int32), q = sk t k (k - p) p → FA S S' → hI S' 37 2 = nI q → hI S' 37 3 = nI p → (w = if s0 = 1 ∨ s0 = 2 then 1 else 0) → BX2_advance_73 ln post S' 37 w := by
    intro S' q w eq hF e2 e3 ew
    have hq := sk_le (t := t) (k := k) (k - p) p
    rw [← eq] at hq
    have hqk := hq.2 hp
    have hs' := hF.sh hs
    have ht' := hF.tp ht
    have fin : ∀ gz : Int32, (gz = 0 ↔ q = p) → BX2_advance_89 ln post S' 37 w gz := fun gz hz => by
      unfold BX2_advance_89
      rw [sh37_0 hs', dn_e, lt_e, e2, p_at hs' hl ht' (by omega)]
      by_cases c : q < k
      · have b := (ht.2.2 q c).2
        have sl := sb_le (t q)
        obtain ⟨n', en⟩ : ∃ n', n = n' + 1 := ⟨n - 1, by omega⟩
        have lxe : lx t k n p (decide (s0 = 1 ∨ s0 = 2)) = tk1 t k p (decide (s0 = 1 ∨ s0 = 2)) :: lx t k n' (tk1 t k p (decide (s0 = 1 ∨ s0 = 2))).2.1 (decide ((tk1 t k p (decide (s0 = 1 ∨ s0 = 2))).2.2 ≠ 3)) := by
          rw [en, lx, if_pos (by rw [← eq]; exact c)]
        obtain ⟨tok, tp⟩ := tk1_ok (t := t) (k := k) (p := p) (g := decide (s0 = 1 ∨ s0 = 2)) (by rw [← eq]; exact c)
        have out : ∀ S2, FA S S2 → hI S2 37 1 = nI (tk1 t k p (decide (s0 = 1 ∨ s0 = 2))).2.2 → hI S2 37 2 = nI q → hI S2 37 3 = nI (tk1 t k p (decide (s0 = 1 ∨ s0 = 2))).2.1 → post S2 := fun S2 f2 a1 a2 a3 => by
          refine h S2 ?_ f2
          rw [lxe]
          refine ⟨⟨a1, ?_, a3⟩, tok, n', ?_, rfl⟩
          · rw [a2, eq]; rfl
          · have := tok.1.1
            omega
        have t1 : (tk1 t k p (decide (s0 = 1 ∨ s0 = 2))).2.1 = if sb (t q) = 3 then q + 1 else we t k (sb (t q)) (k - q) q := by rw [eq]; rfl
        have t2 : (tk1 t k p (decide (s0 = 1 ∨ s0 = 2))).2.2 = if sb (t q) ≠ 3 ∧ decide (s0 = 1 ∨ s0 = 2) = true ∧ q = p then 4 else sb (t q) := by rw [eq]; rfl
        rw [if_pos c, p_sort b]
        simp only [lt_e]
        have e1 : hI (sI (sI S' 37 1 (nI (sb (t q)))) 37 3 (hI (sI S' 37 1 (nI (sb (t q)))) 37 2)) 37 1 = nI (sb (t q)) := by rw [hI_ne (by decide), hI_self]
        have e2' : hI (sI S' 37 1 (nI (sb (t q)))) 37 2 = nI q := by rw [hI_ne (by decide)]; exact e2
        have e2'' : hI (sI (sI S' 37 1 (nI (sb (t q)))) 37 3 (hI (sI S' 37 1 (nI (sb (t q)))) 37 2)) 37 2 = nI q := by rw [hI_ne (by decide)]; exact e2'
        have F1 : FA S (sI (sI S' 37 1 (nI (sb (t q)))) 37 3 (hI (sI S' 37 1 (nI (sb (t q)))) 37 2)) := (hF.sI (Or.inl rfl)).sI (Or.inr (Or.inr rfl))
        rw [e1, e2'']
        by_cases c3 : sb (t q) = 3
        · rw [if_pos (by rw [c3]; rfl), nI_1]
          refine out _ (F1.sI (Or.inr (Or.inr rfl))) ?_ (by rw [hI_ne (by decide)]; exact e2'') ?_
          · rw [hI_ne (by decide), e1, t2, if_neg (fun u => u.1 c3)]
          · rw [hI_self, t1, if_pos c3]
        · rw [if_neg (show ¬ nI (sb (t q)) = 3 from fun u => c3 ((nI_eq (b := 3) (by omega) (by decide)).mp u)), if_neg (show ¬ nI (sb (t q)) = 0 from nI_ne0 (by omega) (by omega))]
          refine ⟨k - q + 1, wend (k - q) q _ w gz q (sb (t q)) (by omega) F1 e1 e2'' (by rw [hI_self]; exact e2') (by omega) (fun S2 f2 a1 a2 a3 => ?_)⟩
          unfold BX2_advance_192
          rw [lt_e]
          by_cases cg : (s0 = 1 ∨ s0 = 2) ∧ q = p
          · rw [ew, if_pos cg.1, if_neg (by decide), if_pos (hz.mpr cg.2)]
            refine out _ (f2.sI (Or.inl rfl)) ?_ (by rw [hI_ne (by decide)]; exact a2) (by rw [hI_ne (by decide), a3, t1, if_neg c3])
            rw [hI_self, t2, if_pos ⟨c3, decide_eq_true cg.1, cg.2⟩]
            rfl
          · have ok : post S2 := out S2 f2 (by rw [a1, t2, if_neg (fun u => cg ⟨of_decide_eq_true u.2.1, u.2.2⟩)]) a2 (by rw [a3, t1, if_neg c3])
            by_cases cw : s0 = 1 ∨ s0 = 2
            · rw [ew, if_pos cw, if_neg (by decide), if_neg (fun u => cg ⟨cw, hz.mp u⟩)]
              exact ok
            · rw [ew, if_neg cw, if_pos rfl]
              exact ok
      · have eqk : q = k := by omega
        have lxe : lx t k n p (decide (s0 = 1 ∨ s0 = 2)) = [] := by
          cases n with
          | zero => rfl
          | succ n => rw [lx, if_neg (by rw [← eq]; exact c)]
        rw [if_neg c, p_sort0]
        simp only [lt_e]
        have e1 : hI (sI (sI S' 37 1 0) 37 3 (hI (sI S' 37 1 0) 37 2)) 37 1 = 0 := by rw [hI_ne (by decide), hI_self]
        rw [e1, if_neg (by decide), if_pos rfl]
        refine h _ ?_ ((hF.sI (Or.inl rfl)).sI (Or.inr (Or.inr rfl)))
        rw [lxe]
        exact ⟨e1, by rw [hI_ne (by decide), hI_ne (by decide), e2, eqk]⟩
    unfold BX2_advance_73
    rw [lt_e, lt_e, e2, e3]
    by_cases c : q ≤ p
    · rw [if_pos (nI_le c (by omega))]
      exact fin 0 ⟨fun _ => by omega, fun _ => rfl⟩
    · rw [if_neg (nI_ge (by omega) (by omega))]
      exact fin 1 ⟨fun u => absurd u (by decide), fun u => by omega⟩
  -- blanks
  have skip : ∀ m q S' (w : Int32), q + m = k → FA S S' → hI S' 37 2 = nI q → hI S' 37 3 = nI p → sk t k m q = sk t k (k - p) p → (w = if s0 = 1 ∨ s0 = 2 then 1 else 0) → LX2_advance_30 ln post (m + 1) S' 37 w := by
    intro m
    induction m with
    | zero =>
      intro q S' w hq hF e2 e3 es ew
      rw [LX2_advance_30]
      dsimp only
      rw [lt_e, e2, sh37_0 (hF.sh hs), dn_e, lt_e, (hF.tp ht).2.1, if_pos (nI_le (by omega) (by omega))]
      exact body S' q w (by rw [← es, sk]) hF e2 e3 ew
    | succ m ih =>
      intro q S' w hq hF e2 e3 es ew
      have b := (ht.2.2 q (by omega)).2
      rw [LX2_advance_30]
      dsimp only
      rw [lt_e, e2, sh37_0 (hF.sh hs), dn_e, lt_e, (hF.tp ht).2.1, if_neg (nI_ge (by omega) (by omega)), dn_e, lt_e, p_at (hF.sh hs) hl (hF.tp ht) (by omega), if_pos (show q < k by omega)]
      rw [sk] at es
      by_cases c : t q = 32
      · rw [if_pos ⟨by omega, c⟩] at es
        rw [if_pos (by rw [c]; rfl), lt_e, e2, lt_e, nI_1, lt_e]
        exact ih (q + 1) _ w (by omega) (hF.sI (Or.inr (Or.inl rfl))) (hI_self _ _ _ _) (by rw [hI_ne (by decide)]; exact e3) es ew
      · rw [if_neg (fun u => c u.2)] at es
        rw [if_neg (show ¬ nI (t q) = 32 from fun u => c ((nI_eq (b := 32) (by omega) (by decide)).mp u))]
        exact body S' q w es hF e2 e3 ew
  have go : ∀ w : Int32, (w = if s0 = 1 ∨ s0 = 2 then 1 else 0) → BX2_advance_21 ln post S 37 w := fun w ew => by
    unfold BX2_advance_21
    rw [lt_e, h3, lt_e]
    exact ⟨k - p + 1, skip (k - p) p _ w (by omega) ((FA.rf S).sI (Or.inr (Or.inl rfl))) (hI_self _ _ _ _) (by rw [hI_ne (by decide)]; exact h3) rfl ew⟩
  unfold wpX2_advance BX2_advance_16
  rw [lt_e, h1, lt_e]
  by_cases c1 : s0 = 1
  · rw [if_pos (by rw [c1]; rfl)]; exact go 1 (by rw [if_pos (Or.inl c1)])
  · rw [if_neg (show ¬ nI s0 = 1 from fun u => c1 ((nI_eq (b := 1) (by omega) (by decide)).mp u))]
    by_cases c2 : s0 = 2
    · rw [if_pos (by rw [c2]; rfl)]; exact go 1 (by rw [if_pos (Or.inr c2)])
    · rw [if_neg (show ¬ nI s0 = 2 from fun u => c2 ((nI_eq (b := 2) (by omega) (by decide)).mp u))]
      exact go 0 (by rw [if_neg (by omega)])
