-- 77.plex.lean.txt
/-! text: the tape, word by word and sign by sign -/
def sb (x : Nat) : Nat := if 97 ≤ x ∧ x ≤ 122 then 1 else if 48 ≤ x ∧ x ≤ 57 then 2 else 3
theorem sb_le (x : Nat) : 1 ≤ sb x ∧ sb x ≤ 3 := by
  unfold sb
  by_cases c1 : 97 ≤ x ∧ x ≤ 122
  · rw [if_pos c1]; omega
  · rw [if_neg c1]
    by_cases c2 : 48 ≤ x ∧ x ≤ 57
    · rw [if_pos c2]; omega
    · rw [if_neg c2]; omega
def sk (t : Nat → Nat) (k : Nat) : Nat → Nat → Nat
  | 0, p => p
  | n + 1, p => if p < k ∧ t p = 32 then sk t k n (p + 1) else p
theorem sk_le {t : Nat → Nat} {k : Nat} : ∀ n p, p ≤ sk t k n p ∧ (p ≤ k → sk t k n p ≤ k) := by
  intro n
  induction n with
  | zero => intro p; exact ⟨Nat.le_refl _, fun h => h⟩
  | succ n ih =>
    intro p
    rw [sk]
    split
    · next q => have := ih (p + 1); exact ⟨by omega, fun _ => this.2 (by omega)⟩
    · exact ⟨Nat.le_refl _, fun h => h⟩
def we (t : Nat → Nat) (k s : Nat) : Nat → Nat → Nat
  | 0, p => p
  | n + 1, p => if p < k ∧ sb (t p) = s then we t k s n (p + 1) else p
theorem we_le {t : Nat → Nat} {k s : Nat} : ∀ n p, p ≤ we t k s n p ∧ (p ≤ k → we t k s n p ≤ k) ∧ ∀ j, p ≤ j → j < we t k s n p → sb (t j) = s := by
  intro n
  induction n with
  | zero => intro p; exact ⟨Nat.le_refl _, fun h => h, fun j h1 h2 => by rw [we] at h2; omega⟩
  | succ n ih =>
    intro p
    rw [we]
    split
    · next q =>
      obtain ⟨i1, i2, i3⟩ := ih (p + 1)
      refine ⟨by omega, fun _ => i2 (by omega), fun j h1 h2 => ?_⟩
      by_cases e : j = p
      · rw [e]; exact q.2
      · exact i3 j (by omega) h2
    · exact ⟨Nat.le_refl _, fun h => h, fun j h1 h2 => by omega⟩
theorem we_pos {t : Nat → Nat} {k n p : Nat} (h : p < k) : p < we t k (sb (t p)) (n + 1) p := by
  rw [we, if_pos ⟨h, rfl⟩]
  have := (we_le (t := t) (k := k) (s := sb (t p)) n (p + 1)).1
  omega
/-- the word or sign from p on: where it begins, where it ends, what it is (4: a word that needs a blank ahead of it) -/
def tk1 (t : Nat → Nat) (k p : Nat) (g : Bool) : Nat × Nat × Nat := (sk t k (k - p) p, if sb (t (sk t k (k - p) p)) = 3 then sk t k (k - p) p + 1 else we t k (sb (t (sk t k (k - p) p))) (k - sk t k (k - p) p) (sk t k (k - p) p), if sb (t (sk t k (k - p) p)) ≠ 3 ∧ g = true ∧ sk t k (k - p) p = p then 4 else sb (t (sk t k (k - p) p)))
def lx (t : Nat → Nat) (k : Nat) : Nat → Nat → Bool → List (Nat × Nat × Nat)
  | 0, _, _ => []
  | n + 1, p, g => if sk t k (k - p) p < k then tk1 t k p g :: lx t k n (tk1 t k p g).2.1 (decide ((tk1 t k p g).2.2 ≠ 3)) else []
def TOK (t : Nat → Nat) (k q e s : Nat) : Prop := (q < e ∧ e ≤ k) ∧ (1 ≤ s ∧ s ≤ 4) ∧ (s ≠ 4 → sb (t q) = s) ∧ (s = 3 → e = q + 1) ∧ (s = 1 ∨ s = 2 → ∀ j, q ≤ j → j < e → sb (t j) = s)
theorem tk1_ok {t : Nat → Nat} {k p : Nat} {g : Bool} (h : sk t k (k - p) p < k) : TOK t k (tk1 t k p g).1 (tk1 t k p g).2.1 (tk1 t k p g).2.2 ∧ p ≤ (tk1 t k p g).1 := by
  have h1 := (sk_le (t := t) (k := k) (k - p) p).1
  have hs := sb_le (t (sk t k (k - p) p))
  unfold tk1
  generalize sk t k (k - p) p = q at *
  obtain ⟨d, hd⟩ : ∃ d, k - q = d + 1 := ⟨k - q - 1, by omega⟩
  have hp := we_pos (t := t) (n := d) h
  have hw := we_le (t := t) (k := k) (s := sb (t q)) (k - q) q
  rw [← hd] at hp
  dsimp only
  refine ⟨⟨?_, ?_, fun u => ?_, fun u => ?_, fun u => ?_⟩, h1⟩
  · by_cases c : sb (t q) = 3
    · rw [if_pos c]; omega
    · rw [if_neg c]; exact ⟨hp, hw.2.1 (by omega)⟩
  · split <;> omega
  · split at u
    · exact absurd rfl u
    · next c => rw [if_neg c]
  · by_cases c : sb (t q) = 3
    · rw [if_pos c]
    · exfalso
      split at u
      · omega
      · exact c u
  · by_cases c : sb (t q) ≠ 3 ∧ g = true ∧ q = p
    · rw [if_pos c] at u; omega
    · rw [if_neg c] at u ⊢
      rw [if_neg (by omega)]
      exact hw.2.2
/-- the tape's bytes -/
def TP (S : HC) (t : Nat → Nat) (k : Nat) : Prop := k ≤ 96 ∧ hI S 38 1 = nI k ∧ ∀ j, j < k → hI S 39 j = nI (t j) ∧ t j < 256
theorem TP.ag {S S' : HC} {t : Nat → Nat} {k : Nat} (h : TP S t k) (e : ∀ r i, r = 38 ∨ r = 39 → hI S' r i = hI S r i) : TP S' t k := ⟨h.1, by rw [e _ _ (Or.inl rfl)]; exact h.2.1, fun j hj => by rw [e _ _ (Or.inr rfl)]; exact h.2.2 j hj⟩
theorem p_at {ln : Nat → Nat} {S : HC} {t : Nat → Nat} {k p : Nat} {post : Int32 → HC → Prop} (hs : SH S) (hl : LN ln) (ht : TP S t k) (hp : p < 1000) : wpX6_at ln S 38 (nI p) post = post (if p < k then nI (t p) else -1) S := by
  unfold wpX6_at BX6_at_27
  rw [if_neg (nI_pos (by omega)), lt_e, ht.2.1]
  have h96 := ht.1
  by_cases q : p < k
  · rw [if_neg (nI_ge q (by omega)), if_neg (show ¬ (96 : Int32) ≤ nI p from nI_ge (b := 96) (by omega) (by decide)), sh38_0 hs, dn_e, ln39 hl, al_e (by omega) (by decide), (ht.2.2 p q).1, if_pos q]
  · rw [if_pos (nI_le (by omega) (by omega)), if_neg q]
theorem p_sort {ln : Nat → Nat} {S : HC} {b : Nat} {post : Int32 → HC → Prop} (hb : b < 256) : wpX2_sortOf ln S (nI b) post = post (nI (sb b)) S := by
  unfold wpX2_sortOf BX2_sortOf_20 BX2_sortOf_36 sb
  rw [if_pos (nI_pos' (by omega))]
  by_cases c1 : b < 97
  · rw [if_pos (show nI b < 97 from nI_lt (b := 97) c1 (by decide)), if_neg (show ¬ (97 ≤ b ∧ b ≤ 122) by omega)]
    by_cases c2 : b < 48
    · rw [if_pos (show nI b < 48 from nI_lt (b := 48) c2 (by decide)), if_neg (by omega)]
      rfl
    · rw [if_neg (show ¬ nI b < 48 from nI_nlt (b := 48) (by omega) (by omega))]
      by_cases c3 : 57 < b
      · rw [if_pos (show (57 : Int32) < nI b from nI_lt (a := 57) c3 (by omega)), if_neg (by omega)]
        rfl
      · rw [if_neg (show ¬ (57 : Int32) < nI b from nI_nlt (a := 57) (by omega) (by decide)), if_pos (by omega)]
        rfl
  · rw [if_neg (show ¬ nI b < 97 from nI_nlt (b := 97) (by omega) (by omega))]
    by_cases c2 : 122 < b
    · rw [if_pos (show (122 : Int32) < nI b from nI_lt (a := 122) c2 (by omega)), if_neg (show ¬ nI b < 48 from nI_nlt (b := 48) (by omega) (by omega)), if_pos (show (57 : Int32) < nI b from nI_lt (a := 57) (by omega) (by omega)), if_neg (by omega), if_neg (by omega)]
      rfl
    · rw [if_neg (show ¬ (122 : Int32) < nI b from nI_nlt (a := 122) (by omega) (by decide)), if_pos (show 97 ≤ b ∧ b ≤ 122 by omega)]
      rfl
theorem p_sort0 {ln : Nat → Nat} {S : HC} {post : Int32 → HC → Prop} : wpX2_sortOf ln S (-1) post = post 0 S := by
  unfold wpX2_sortOf
  rw [if_neg (by decide)]
/-- the class's reader stands at the first of these -/
def CT (t : Nat → Nat) (k : Nat) (S : HC) : List (Nat × Nat × Nat) → Prop
  | [] => hI S 37 1 = 0 ∧ hI S 37 2 = nI k
  | x :: r => (hI S 37 1 = nI x.2.2 ∧ hI S 37 2 = nI x.1 ∧ hI S 37 3 = nI x.2.1) ∧ TOK t k x.1 x.2.1 x.2.2 ∧ ∃ n, k - x.2.1 ≤ n ∧ r = lx t k n x.2.1 (decide (x.2.2 ≠ 3))
def FA (S S' : HC) : Prop := (∀ r i, ¬ (r = 37 ∧ (i = 1 ∨ i = 2 ∨ i = 3)) → hI S' r i = hI S r i) ∧ ∀ r i, hR S' r i = hR S r i
theorem FA.rf (S : HC) : FA S S := ⟨fun _ _ _ => rfl, fun _ _ => rfl⟩
theorem FA.sI {S S' : HC} {i : Nat} {v : Int32} (h : FA S S') (hi : i = 1 ∨ i = 2 ∨ i = 3) : FA S (sI S' 37 i v) := ⟨fun r j u => by rw [hI_ne (by omega)]; exact h.1 r j u, h.2⟩
theorem FA.sh {S S' : HC} (h : FA S S') (hs : SH S) : SH S' := hs.of (fun _ _ => h.2 _ _)
theorem FA.tp {S S' : HC} {t : Nat → Nat} {k : Nat} (h : FA S S') (ht : TP S t k) : TP S' t k := ht.ag (fun r i u => h.1 r i (by omega))
theorem p_adv {ln : Nat → Nat} {S : HC} {t : Nat → Nat} {k p s0 n : Nat} {post : HC → Prop} (hs : SH S) (hl : LN ln) (ht : TP S t k) (h1 : hI S 37 1 = nI s0) (hs0 : s0 ≤ 3) (h3 : hI S 37 3 = nI p) (hp : p ≤ k) (hn : k - p ≤ n) (h : ∀ S', CT t k S' (lx t k n p (decide (s0 = 1 ∨ s0 = 2))) → FA S S' → post S') : wpX2_advance ln S 37 post := by
  have h96 := ht.1
  -- the word's end
  have wend : ∀ m e S' (w g : Int32) (q s : Nat), e + m = k → FA S S' → hI S' 37 1 = nI s → hI S' 37 2 = nI q → hI S' 37 3 = nI e → (s = 1 ∨ s = 2) → (∀ S2, FA S S2 → hI S2 37 1 = nI s → hI S2 37 2 = nI q → hI S2 37 3 = nI (we t k s m e) → BX2_advance_192 ln post S2 37 w g) → LX2_advance_144 ln post (m + 1) S' 37 w g := by
    intro m
    induction m with
    | zero =>
      intro e S' w g q s he hF e1 e2 e3 hsx hk
      rw [LX2_advance_144]
      dsimp only
      rw [lt_e, e3, sh37_0 (hF.sh hs), dn_e, lt_e, (hF.tp ht).2.1, if_pos (nI_le (by omega) (by omega))]
      exact hk S' hF e1 e2 e3
    | succ m ih =>
      intro e S' w g q s he hF e1 e2 e3 hsx hk
      have b := (ht.2.2 e (by omega)).2
      rw [LX2_advance_144]
      dsimp only
      rw [lt_e, e3, sh37_0 (hF.sh hs), dn_e, lt_e, (hF.tp ht).2.1, if_neg (nI_ge (by omega) (by omega)), dn_e, lt_e, p_at (hF.sh hs) hl (hF.tp ht) (by omega), if_pos (show e < k by omega), p_sort b, lt_e, e1]
      rw [we] at hk
      by_cases c : sb (t e) = s
      · rw [if_pos ⟨by omega, c⟩] at hk
        rw [if_pos (by rw [c]), lt_e, e3, lt_e, nI_1, lt_e]
        exact ih (e + 1) _ w g q s (by omega) (hF.sI (Or.inr (Or.inr rfl))) (by rw [hI_ne (by decide)]; exact e1) (by rw [hI_ne (by decide)]; exact e2) (hI_self _ _ _ _) hsx hk
      · rw [if_neg (fun u => c u.2)] at hk
        have := sb_le (t e)
        rw [if_neg (fun u => c ((nI_eq (by omega) (by omega)).mp u))]
        exact hk S' hF e1 e2 e3
  -- the word or sign from q on
  have body : ∀ (S' : HC) (q : Nat) (w : Int32), q = sk t k (k - p) p → FA S S' → hI S' 37 2 = nI q → hI S' 37 3 = nI p → (w = if s0 = 1 ∨ s0 = 2 then 1 else 0) → BX2_advance_73 ln post S' 37 w := by
    intro S' q w eq hF e2 e3 ew
    have hq := sk_le (t := t) (k := k) (k - p) p
    rw [← eq] at hq
    have hqk := hq.2 hp
    have hs' := hF.sh hs
    have ht' := hF.tp ht
    have fin : ∀ gz : Int32, (gz = 0 ↔ q = p) → BX2_advance_89 ln post S' 37 w gz := fun gz hz => by
      unfold BX2_advance_89
      rw [sh37_0 hs', dn_e, lt_e, e2, p_at hs' hl ht' (by omega)]
      by_cases c : q < k
      · have b := (ht.2.2 q c).2
        have sl := sb_le (t q)
        obtain ⟨n', en⟩ : ∃ n', n = n' + 1 := ⟨n - 1, by omega⟩
        have lxe : lx t k n p (decide (s0 = 1 ∨ s0 = 2)) = tk1 t k p (decide (s0 = 1 ∨ s0 = 2)) :: lx t k n' (tk1 t k p (decide (s0 = 1 ∨ s0 = 2))).2.1 (decide ((tk1 t k p (decide (s0 = 1 ∨ s0 = 2))).2.2 ≠ 3)) := by
          rw [en, lx, if_pos (by rw [← eq]; exact c)]
        obtain ⟨tok, tp⟩ := tk1_ok (t := t) (k := k) (p := p) (g := decide (s0 = 1 ∨ s0 = 2)) (by rw [← eq]; exact c)
        have out : ∀ S2, FA S S2 → hI S2 37 1 = nI (tk1 t k p (decide (s0 = 1 ∨ s0 = 2))).2.2 → hI S2 37 2 = nI q → hI S2 37 3 = nI (tk1 t k p (decide (s0 = 1 ∨ s0 = 2))).2.1 → post S2 := fun S2 f2 a1 a2 a3 => by
          refine h S2 ?_ f2
          rw [lxe]
          refine ⟨⟨a1, ?_, a3⟩, tok, n', ?_, rfl⟩
          · rw [a2, eq]; rfl
          · have := tok.1.1
            omega
        have t1 : (tk1 t k p (decide (s0 = 1 ∨ s0 = 2))).2.1 = if sb (t q) = 3 then q + 1 else we t k (sb (t q)) (k - q) q := by rw [eq]; rfl
        have t2 : (tk1 t k p (decide (s0 = 1 ∨ s0 = 2))).2.2 = if sb (t q) ≠ 3 ∧ decide (s0 = 1 ∨ s0 = 2) = true ∧ q = p then 4 else sb (t q) := by rw [eq]; rfl
        rw [if_pos c, p_sort b]
        simp only [lt_e]
        have e1 : hI (sI (sI S' 37 1 (nI (sb (t q)))) 37 3 (hI (sI S' 37 1 (nI (sb (t q)))) 37 2)) 37 1 = nI (sb (t q)) := by rw [hI_ne (by decide), hI_self]
        have e2' : hI (sI S' 37 1 (nI (sb (t q)))) 37 2 = nI q := by rw [hI_ne (by decide)]; exact e2
        have e2'' : hI (sI (sI S' 37 1 (nI (sb (t q)))) 37 3 (hI (sI S' 37 1 (nI (sb (t q)))) 37 2)) 37 2 = nI q := by rw [hI_ne (by decide)]; exact e2'
        have F1 : FA S (sI (sI S' 37 1 (nI (sb (t q)))) 37 3 (hI (sI S' 37 1 (nI (sb (t q)))) 37 2)) := (hF.sI (Or.inl rfl)).sI (Or.inr (Or.inr rfl))
        rw [e1, e2'']
        by_cases c3 : sb (t q) = 3
        · rw [if_pos (by rw [c3]; rfl), nI_1]
          refine out _ (F1.sI (Or.inr (Or.inr rfl))) ?_ (by rw [hI_ne (by decide)]; exact e2'') ?_
          · rw [hI_ne (by decide), e1, t2, if_neg (fun u => u.1 c3)]
          · rw [hI_self, t1, if_pos c3]
        · rw [if_neg (show ¬ nI (sb (t q)) = 3 from fun u => c3 ((nI_eq (b := 3) (by omega) (by decide)).mp u)), if_neg (show ¬ nI (sb (t q)) = 0 from nI_ne0 (by omega) (by omega))]
          refine ⟨k - q + 1, wend (k - q) q _ w gz q (sb (t q)) (by omega) F1 e1 e2'' (by rw [hI_self]; exact e2') (by omega) (fun S2 f2 a1 a2 a3 => ?_)⟩
          unfold BX2_advance_192
          rw [lt_e]
          by_cases cg : (s0 = 1 ∨ s0 = 2) ∧ q = p
          · rw [ew, if_pos cg.1, if_neg (by decide), if_pos (hz.mpr cg.2)]
            refine out _ (f2.sI (Or.inl rfl)) ?_ (by rw [hI_ne (by decide)]; exact a2) (by rw [hI_ne (by decide), a3, t1, if_neg c3])
            rw [hI_self, t2, if_pos ⟨c3, decide_eq_true cg.1, cg.2⟩]
            rfl
          · have ok : post S2 := out S2 f2 (by rw [a1, t2, if_neg (fun u => cg ⟨of_decide_eq_true u.2.1, u.2.2⟩)]) a2 (by rw [a3, t1, if_neg c3])
            by_cases cw : s0 = 1 ∨ s0 = 2
            · rw [ew, if_pos cw, if_neg (by decide), if_neg (fun u => cg ⟨cw, hz.mp u⟩)]
              exact ok
            · rw [ew, if_neg cw, if_pos rfl]
              exact ok
      · have eqk : q = k := by omega
        have lxe : lx t k n p (decide (s0 = 1 ∨ s0 = 2)) = [] := by
          cases n with
          | zero => rfl
          | succ n => rw [lx, if_neg (by rw [← eq]; exact c)]
        rw [if_neg c, p_sort0]
        simp only [lt_e]
        have e1 : hI (sI (sI S' 37 1 0) 37 3 (hI (sI S' 37 1 0) 37 2)) 37 1 = 0 := by rw [hI_ne (by decide), hI_self]
        rw [e1, if_neg (by decide), if_pos rfl]
        refine h _ ?_ ((hF.sI (Or.inl rfl)).sI (Or.inr (Or.inr rfl)))
        rw [lxe]
        exact ⟨e1, by rw [hI_ne (by decide), hI_ne (by decide), e2, eqk]⟩
    unfold BX2_advance_73
    rw [lt_e, lt_e, e2, e3]
    by_cases c : q ≤ p
    · rw [if_pos (nI_le c (by omega))]
      exact fin 0 ⟨fun _ => by omega, fun _ => rfl⟩
    · rw [if_neg (nI_ge (by omega) (by omega))]
      exact fin 1 ⟨fun u => absurd u (by decide), fun u => by omega⟩
  -- blanks
  have skip : ∀ m q S' (w : Int32), q + m = k → FA S S' → hI S' 37 2 = nI q → hI S' 37 3 = nI p → sk t k m q = sk t k (k - p) p → (w = if s0 = 1 ∨ s0 = 2 then 1 else 0) → LX2_advance_30 ln post (m + 1) S' 37 w := by
    intro m
    induction m with
    | zero =>
      intro q S' w hq hF e2 e3 es ew
      rw [LX2_advance_30]
      dsimp only
      rw [lt_e, e2, sh37_0 (hF.sh hs), dn_e, lt_e, (hF.tp ht).2.1, if_pos (nI_le (by omega) (by omega))]
      exact body S' q w (by rw [← es, sk]) hF e2 e3 ew
    | succ m ih =>
      intro q S' w hq hF e2 e3 es ew
      have b := (ht.2.2 q (by omega)).2
      rw [LX2_advance_30]
      dsimp only
      rw [lt_e, e2, sh37_0 (hF.sh hs), dn_e, lt_e, (hF.tp ht).2.1, if_neg (nI_ge (by omega) (by omega)), dn_e, lt_e, p_at (hF.sh hs) hl (hF.tp ht) (by omega), if_pos (show q < k by omega)]
      rw [sk] at es
      by_cases c : t q = 32
      · rw [if_pos ⟨by omega, c⟩] at es
        rw [if_pos (by rw [c]; rfl), lt_e, e2, lt_e, nI_1, lt_e]
        exact ih (q + 1) _ w (by omega) (hF.sI (Or.inr (Or.inl rfl))) (hI_self _ _ _ _) (by rw [hI_ne (by decide)]; exact e3) es ew
      · rw [if_neg (fun u => c u.2)] at es
        rw [if_neg (show ¬ nI (t q) = 32 from fun u => c ((nI_eq (b := 32) (by omega) (by decide)).mp u))]
        exact body S' q w es hF e2 e3 ew
  have go : ∀ w : Int32, (w = if s0 = 1 ∨ s0 = 2 then 1 else 0) → BX2_advance_21 ln post S 37 w := fun w ew => by
    unfold BX2_advance_21
    rw [lt_e, h3, lt_e]
    exact ⟨k - p + 1, skip (k - p) p _ w (by omega) ((FA.rf S).sI (Or.inr (Or.inl rfl))) (hI_self _ _ _ _) (by rw [hI_ne (by decide)]; exact h3) rfl ew⟩
  unfold wpX2_advance BX2_advance_16
  rw [lt_e, h1, lt_e]
  by_cases c1 : s0 = 1
  · rw [if_pos (by rw [c1]; rfl)]; exact go 1 (by rw [if_pos (Or.inl c1)])
  · rw [if_neg (show ¬ nI s0 = 1 from fun u => c1 ((nI_eq (b := 1) (by omega) (by decide)).mp u))]
    by_cases c2 : s0 = 2
    · rw [if_pos (by rw [c2]; rfl)]; exact go 1 (by rw [if_pos (Or.inr c2)])
    · rw [if_neg (show ¬ nI s0 = 2 from fun u => c2 ((nI_eq (b := 2) (by omega) (by decide)).mp u))]
      exact go 0 (by rw [if_neg (by omega)])
-- 78.pgo.lean.txt
/-! text: the tape, word by word, the reference's side -/
def nmF (t : Nat → Nat) (q : Nat) : Nat → Nat
  | 0 => 0
  | j + 1 => 10 * nmF t q j + (t (q + j) - 48)
theorem sb_dig {x : Nat} (h : sb x = 2) : 48 ≤ x ∧ x ≤ 57 := by
  unfold sb at h
  by_cases c1 : 97 ≤ x ∧ x ≤ 122
  · rw [if_pos c1] at h; omega
  · rw [if_neg c1] at h
    by_cases c2 : 48 ≤ x ∧ x ≤ 57
    · exact c2
    · rw [if_neg c2] at h; omega
theorem nmF_lt {t : Nat → Nat} {q : Nat} : ∀ j, (∀ i, i < j → sb (t (q + i)) = 2) → nmF t q j < 10 ^ j := by
  intro j
  induction j with
  | zero => intro _; rw [nmF]; decide
  | succ j ih =>
    intro h
    have h1 := ih (fun i hi => h i (by omega))
    have h2 := sb_dig (h j (by omega))
    rw [nmF, Nat.pow_succ]
    omega
theorem nm_step {a b : Nat} (hb : 48 ≤ b) : (10 : Int32) * nI a + nI b - 48 = nI (10 * a + (b - 48)) := by
  rw [show (10 : Int32) * nI a = nI (10 * a) from pk_mul 10 a, nI_add, show nI (10 * a + b) - 48 = nI (10 * a + b - 48) from pk_sub (b := 48) (by omega), show 10 * a + b - 48 = 10 * a + (b - 48) by omega]
/-- the tape's bytes, the reference's -/
def TPm (S : HC) (t : Nat → Nat) (k : Nat) : Prop := k ≤ 96 ∧ hI S 68 7 = nI k ∧ ∀ j, j < k → hI S 74 j = nI (t j) ∧ t j < 256
theorem TPm.ag {S S' : HC} {t : Nat → Nat} {k : Nat} (h : TPm S t k) (e : ∀ r i, (r = 68 ∧ i = 7) ∨ r = 74 → hI S' r i = hI S r i) : TPm S' t k := ⟨h.1, by rw [e _ _ (Or.inl ⟨rfl, rfl⟩)]; exact h.2.1, fun j hj => by rw [e _ _ (Or.inr rfl)]; exact h.2.2 j hj⟩
theorem p_isLetter {ln : Nat → Nat} {S : HC} {t : Nat → Nat} {k p : Nat} {post : Int32 → HC → Prop} (hs : SH S) (hl : LN ln) (ht : TPm S t k) (hp : p < 1000) : wpX8_isLetter ln S 68 (nI p) post = post (bI (p < k ∧ sb (t p) = 1)) S := by
  have h96 := ht.1
  unfold wpX8_isLetter BX8_isLetter_34
  rw [lt_e, ht.2.1, rb_e0, rb_e1]
  by_cases q : p < k
  · have b := (ht.2.2 p q).2
    rw [if_neg (nI_ge q (by omega)), sh68_6 hs, dn_e, ln74 hl, al_e (by omega) (by decide), (ht.2.2 p q).1, dn_e, ln74 hl, al_e (by omega) (by decide), (ht.2.2 p q).1]
    unfold sb
    by_cases c1 : t p < 97
    · rw [if_pos (show nI (t p) < 97 from nI_lt (b := 97) c1 (by decide)), bI_f (fun u => by have u2 := u.2; rw [if_neg (by omega)] at u2; split at u2 <;> omega)]
    · rw [if_neg (show ¬ nI (t p) < 97 from nI_nlt (b := 97) (by omega) (by omega))]
      by_cases c2 : 122 < t p
      · rw [if_pos (show (122 : Int32) < nI (t p) from nI_lt (a := 122) c2 (by omega)), bI_f (fun u => by have u2 := u.2; rw [if_neg (by omega)] at u2; split at u2 <;> omega)]
      · rw [if_neg (show ¬ (122 : Int32) < nI (t p) from nI_nlt (a := 122) (by omega) (by decide)), bI_t ⟨q, by rw [if_pos (by omega)]⟩]
  · rw [if_pos (nI_le (by omega) (by omega)), bI_f (fun u => q u.1)]
theorem p_isFigure {ln : Nat → Nat} {S : HC} {t : Nat → Nat} {k p : Nat} {post : Int32 → HC → Prop} (hs : SH S) (hl : LN ln) (ht : TPm S t k) (hp : p < 1000) : wpX8_isFigure ln S 68 (nI p) post = post (bI (p < k ∧ sb (t p) = 2)) S := by
  have h96 := ht.1
  unfold wpX8_isFigure BX8_isFigure_34
  rw [lt_e, ht.2.1, rb_e0, rb_e1]
  by_cases q : p < k
  · have b := (ht.2.2 p q).2
    rw [if_neg (nI_ge q (by omega)), sh68_6 hs, dn_e, ln74 hl, al_e (by omega) (by decide), (ht.2.2 p q).1, dn_e, ln74 hl, al_e (by omega) (by decide), (ht.2.2 p q).1]
    unfold sb
    by_cases c1 : t p < 48
    · rw [if_pos (show nI (t p) < 48 from nI_lt (b := 48) c1 (by decide)), bI_f (fun u => by have u2 := u.2; rw [if_neg (by omega), if_neg (by omega)] at u2; omega)]
    · rw [if_neg (show ¬ nI (t p) < 48 from nI_nlt (b := 48) (by omega) (by omega))]
      by_cases c2 : 57 < t p
      · rw [if_pos (show (57 : Int32) < nI (t p) from nI_lt (a := 57) c2 (by omega)), bI_f (fun u => by have u2 := u.2; split at u2; omega; rw [if_neg (by omega)] at u2; omega)]
      · rw [if_neg (show ¬ (57 : Int32) < nI (t p) from nI_nlt (a := 57) (by omega) (by decide)), bI_t ⟨q, by rw [if_neg (by omega), if_pos (by omega)]⟩]
  · rw [if_pos (nI_le (by omega) (by omega)), bI_f (fun u => q u.1)]
def kdT (x : Nat × Nat × Nat) : Nat := if x.2.2 = 2 ∧ 4 < x.2.1 - x.1 then 4 else x.2.2
/-- the reference's reader stands at the first of these -/
def RTk (t : Nat → Nat) (k : Nat) (S : HC) : List (Nat × Nat × Nat) → Prop
  | [] => hI S 68 10 = 0 ∧ hI S 68 9 = nI k
  | x :: r => (hI S 68 9 = nI x.1 ∧ hI S 68 8 = nI x.2.1 ∧ hI S 68 10 = nI (kdT x)) ∧ ((x.2.2 = 1 ∨ x.2.2 = 3 → hI S 68 11 = nI (t x.1)) ∧ (x.2.2 = 2 ∧ x.2.1 - x.1 ≤ 4 → hI S 68 11 = nI (nmF t x.1 (x.2.1 - x.1)))) ∧ ((x.2.2 ≠ 3 → hI S 68 12 = nI x.2.1) ∧ (x.2.2 = 3 → ∀ j, x.2.1 ≤ j → j ≤ 96 → hI S 68 12 ≠ nI j)) ∧ TOK t k x.1 x.2.1 x.2.2 ∧ ∃ n, k - x.2.1 ≤ n ∧ r = lx t k n x.2.1 (decide (x.2.2 ≠ 3))
def FG (S S' : HC) : Prop := (∀ r i, ¬ (r = 68 ∧ 8 ≤ i ∧ i ≤ 12) → hI S' r i = hI S r i) ∧ ∀ r i, hR S' r i = hR S r i
theorem FG.rf (S : HC) : FG S S := ⟨fun _ _ _ => rfl, fun _ _ => rfl⟩
theorem FG.sI {S S' : HC} {i : Nat} {v : Int32} (h : FG S S') (hi : 8 ≤ i ∧ i ≤ 12) : FG S (sI S' 68 i v) := ⟨fun r j u => by rw [hI_ne (by omega)]; exact h.1 r j u, h.2⟩
theorem FG.sh {S S' : HC} (h : FG S S') (hs : SH S) : SH S' := hs.of (fun _ _ => h.2 _ _)
theorem FG.tp {S S' : HC} {t : Nat → Nat} {k : Nat} (h : FG S S') (ht : TPm S t k) : TPm S' t k := ht.ag (fun r i u => h.1 r i (by omega))
theorem FG.tr {S S' S'' : HC} (h : FG S S') (h2 : FG S' S'') : FG S S'' := ⟨fun r i u => (h2.1 r i u).trans (h.1 r i u), fun r i => (h2.2 r i).trans (h.2 r i)⟩
theorem p_go {ln : Nat → Nat} {S : HC} {t : Nat → Nat} {k p n : Nat} {g : Bool} {post : HC → Prop} (hs : SH S) (hl : LN ln) (ht : TPm S t k) (h8 : hI S 68 8 = nI p) (hp : p ≤ k) (hg1 : g = true → hI S 68 12 = nI p) (hg0 : g = false → ∀ j, p ≤ j → j ≤ 96 → hI S 68 12 ≠ nI j) (hn : k - p ≤ n) (h : ∀ S', RTk t k S' (lx t k n p g) → FG S S' → post S') : wpX8_go ln S 68 post := by
  have h96 := ht.1
  have letters : ∀ m e S' (w : Int32) (q : Nat), e + m = k → FG S S' → hI S' 68 9 = nI q → hI S' 68 8 = nI e → (∀ S2, FG S S2 → hI S2 68 9 = nI q → hI S2 68 8 = nI (we t k 1 m e) → (if w = 0 then BX8_go_127 ln post S2 68 68 1 else BX8_go_127 ln post S2 68 68 4)) → LX8_go_93 ln post (m + 1) S' 68 w := by
    intro m
    induction m with
    | zero =>
      intro e S' w q he hF e9 e8 hk
      rw [LX8_go_93]
      dsimp only
      rw [lt_e, e8, p_isLetter (hF.sh hs) hl (hF.tp ht) (by omega), bI_f (by omega), if_pos rfl]
      exact hk S' hF e9 e8
    | succ m ih =>
      intro e S' w q he hF e9 e8 hk
      rw [LX8_go_93]
      dsimp only
      rw [lt_e, e8, p_isLetter (hF.sh hs) hl (hF.tp ht) (by omega)]
      rw [we] at hk
      by_cases c : e < k ∧ sb (t e) = 1
      · rw [if_pos c] at hk
        rw [bI_t c, if_neg (by decide), lt_e, e8, lt_e, nI_1, lt_e]
        exact ih (e + 1) _ w q (by omega) (hF.sI (by decide)) (by rw [hI_ne (by decide)]; exact e9) (hI_self _ _ _ _) hk
      · rw [if_neg c] at hk
        rw [bI_f c, if_pos rfl]
        exact hk S' hF e9 e8
  have figures : ∀ m e S' (w : Int32) (q : Nat), e + m = k → q ≤ e → FG S S' → (∀ i, q ≤ i → i < e → sb (t i) = 2) → hI S' 68 9 = nI q → hI S' 68 8 = nI e → (e - q ≤ 4 → hI S' 68 11 = nI (nmF t q (e - q))) → (∀ S2, FG S S2 → hI S2 68 9 = nI q → hI S2 68 8 = nI (we t k 2 m e) → (we t k 2 m e - q ≤ 4 → hI S2 68 11 = nI (nmF t q (we t k 2 m e - q))) → (if w = 0 ∧ we t k 2 m e - q ≤ 4 then BX8_go_261 ln post S2 68 68 2 else BX8_go_256 ln post S2 68 68)) → LX8_go_170 ln post (m + 1) S' 68 w := by
    intro m
    induction m with
    | zero =>
      intro e S' w q he hqe hF hd e9 e8 e11 hk
      rw [LX8_go_170]
      dsimp only
      rw [lt_e, e8, p_isFigure (hF.sh hs) hl (hF.tp ht) (by omega), bI_f (by omega), if_pos rfl]
      have k2 := hk S' hF e9 e8 e11
      rw [we] at k2
      by_cases cw : w = 0
      · rw [if_pos cw, lt_e, lt_e, e8, e9, lt_e, pk_sub hqe]
        by_cases c4 : e - q ≤ 4
        · rw [if_pos ⟨cw, c4⟩] at k2
          rw [if_pos (show nI (e - q) ≤ 4 from nI_le (b := 4) c4 (by decide))]; exact k2
        · rw [if_neg (fun u => c4 u.2)] at k2
          rw [if_neg (show ¬ nI (e - q) ≤ 4 from nI_ge (a := 4) (by omega) (by omega))]; exact k2
      · rw [if_neg (fun u => cw u.1)] at k2
        rw [if_neg cw]; exact k2
    | succ m ih =>
      intro e S' w q he hqe hF hd e9 e8 e11 hk
      rw [LX8_go_170]
      dsimp only
      rw [lt_e, e8, p_isFigure (hF.sh hs) hl (hF.tp ht) (by omega)]
      rw [we] at hk
      by_cases c : e < k ∧ sb (t e) = 2
      · rw [if_pos c] at hk
        have dg := sb_dig c.2
        have b := ht.2.2 e c.1
        have tt := (hF.tp ht).2.2 e c.1
        rw [bI_t c, if_neg (by decide), lt_e, lt_e, e8, e9, lt_e, pk_sub hqe]
        have hd2 : ∀ i, q ≤ i → i < e + 1 → sb (t i) = 2 := fun i u1 u2 => by
          by_cases u : i = e
          · rw [u]; exact c.2
          · exact hd i u1 (by omega)
        unfold BX8_go_222
        by_cases c4 : 4 ≤ e - q
        · rw [if_pos (show (4 : Int32) ≤ nI (e - q) from nI_le (a := 4) c4 (by omega))]
          simp only [lt_e]
          rw [hI_ne (by decide), e8, nI_1]
          exact ih (e + 1) _ w q (by omega) (by omega) ((hF.sI (by decide)).sI (by decide)) hd2 (by rw [hI_ne (by decide), hI_ne (by decide)]; exact e9) (hI_self _ _ _ _) (fun u => by omega) hk
        · rw [if_neg (show ¬ (4 : Int32) ≤ nI (e - q) from nI_ge (b := 4) (by omega) (by decide)), lt_e, lt_e, sh68_6 (hF.sh hs), dn_e, lt_e, ln74 hl, al_e (by omega) (by decide), tt.1, e11 (by omega)]
          simp only [lt_e]
          rw [nm_step dg.1, hI_ne (by decide), e8, nI_1]
          refine ih (e + 1) _ w q (by omega) (by omega) ((hF.sI (by decide)).sI (by decide)) hd2 (by rw [hI_ne (by decide), hI_ne (by decide)]; exact e9) (hI_self _ _ _ _) (fun u => ?_) hk
          rw [hI_ne (by decide), hI_self, show e + 1 - q = (e - q) + 1 by omega, nmF, show q + (e - q) = e by omega]
      · rw [if_neg c] at hk
        rw [bI_f c, if_pos rfl]
        have k2 := hk S' hF e9 e8 e11
        by_cases cw : w = 0
        · rw [if_pos cw, lt_e, lt_e, e8, e9, lt_e, pk_sub hqe]
          by_cases c4 : e - q ≤ 4
          · rw [if_pos ⟨cw, c4⟩] at k2
            rw [if_pos (show nI (e - q) ≤ 4 from nI_le (b := 4) c4 (by decide))]; exact k2
          · rw [if_neg (fun u => c4 u.2)] at k2
            rw [if_neg (show ¬ nI (e - q) ≤ 4 from nI_ge (a := 4) (by omega) (by omega))]; exact k2
        · rw [if_neg (fun u => cw u.1)] at k2
          rw [if_neg cw]; exact k2
  have body : ∀ (S' : HC) (q : Nat), q = sk t k (k - p) p → FG S S' → hI S' 68 8 = nI q → hI S' 68 12 = hI S 68 12 → BX8_go_38 ln post S' 68 := by
    intro S' q eq hF e8 e12
    have hq := sk_le (t := t) (k := k) (k - p) p
    rw [← eq] at hq
    have hqk := hq.2 hp
    have hF1 : FG S (sI S' 68 9 (nI q)) := hF.sI (by decide)
    have fin : ∀ w : Int32, (w = 0 ∨ w = 1) → (w = 1 ↔ g = true ∧ q = p) → BX8_go_62 ln post (sI S' 68 9 (nI q)) 68 w := fun w hw01 hw => by
      have e9' : hI (sI S' 68 9 (nI q)) 68 9 = nI q := hI_self _ _ _ _
      have e8' : hI (sI S' 68 9 (nI q)) 68 8 = nI q := by rw [hI_ne (by decide)]; exact e8
      have e12' : hI (sI S' 68 9 (nI q)) 68 12 = hI S 68 12 := by rw [hI_ne (by decide)]; exact e12
      generalize sI S' 68 9 (nI q) = S1 at hF1 e9' e8' e12'
      have hs1 := hF1.sh hs
      have ht1 := hF1.tp ht
      unfold BX8_go_62
      rw [lt_e, e9', lt_e, ht1.2.1]
      by_cases c : q < k
      · have b := ht.2.2 q c
        have b1 := ht1.2.2 q c
        have sl := sb_le (t q)
        obtain ⟨n', en⟩ : ∃ n', n = n' + 1 := ⟨n - 1, by omega⟩
        have lxe : lx t k n p g = tk1 t k p g :: lx t k n' (tk1 t k p g).2.1 (decide ((tk1 t k p g).2.2 ≠ 3)) := by
          rw [en, lx, if_pos (by rw [← eq]; exact c)]
        obtain ⟨tok, tp⟩ := tk1_ok (t := t) (k := k) (p := p) (g := g) (by rw [← eq]; exact c)
        have t0 : (tk1 t k p g).1 = q := by rw [eq]; rfl
        have t1 : (tk1 t k p g).2.1 = if sb (t q) = 3 then q + 1 else we t k (sb (t q)) (k - q) q := by rw [eq]; rfl
        have t2 : (tk1 t k p g).2.2 = if sb (t q) ≠ 3 ∧ g = true ∧ q = p then 4 else sb (t q) := by rw [eq]; rfl
        have out : ∀ S2, FG S S2 → (hI S2 68 9 = nI q ∧ hI S2 68 8 = nI (tk1 t k p g).2.1 ∧ hI S2 68 10 = nI (kdT (tk1 t k p g))) → (((tk1 t k p g).2.2 = 1 ∨ (tk1 t k p g).2.2 = 3 → hI S2 68 11 = nI (t q)) ∧ ((tk1 t k p g).2.2 = 2 ∧ (tk1 t k p g).2.1 - q ≤ 4 → hI S2 68 11 = nI (nmF t q ((tk1 t k p g).2.1 - q)))) → (((tk1 t k p g).2.2 ≠ 3 → hI S2 68 12 = nI (tk1 t k p g).2.1) ∧ ((tk1 t k p g).2.2 = 3 → ∀ j, (tk1 t k p g).2.1 ≤ j → j ≤ 96 → hI S2 68 12 ≠ nI j)) → post S2 := fun S2 f2 a1 a2 a3 => by
          refine h S2 ?_ f2
          rw [lxe]
          refine ⟨by rw [t0]; exact a1, by rw [t0]; exact a2, a3, tok, n', ?_, rfl⟩
          have := tok.1.1
          omega
        rw [if_neg (fun u => by have := (nI_eq (by omega) (by omega)).mp u; omega), lt_e, p_isLetter hs1 hl ht1 (by omega)]
        by_cases c1 : sb (t q) = 1
        · rw [bI_t ⟨c, c1⟩, if_neg (by decide)]
          refine ⟨k - q + 1, letters (k - q) q S1 w q (by omega) hF1 e9' e8' (fun S2 f2 a9 a8 => ?_)⟩
          have a8' : hI S2 68 8 = nI (tk1 t k p g).2.1 := by rw [a8, t1, if_neg (by omega), c1]
          have out2 : ∀ z : Nat, z = (tk1 t k p g).2.2 → (z = 1 ∨ z = 4) → BX8_go_127 ln post S2 68 68 (nI z) := fun z ez hz => by
            have ek : kdT (tk1 t k p g) = z := by unfold kdT; rw [if_neg (by omega), ez]
            unfold BX8_go_127
            rw [lt_e, sh68_6 ((f2.sh hs).sI _ _ _), dn_e, lt_e, hI_ne (by decide), a9, ln74 hl, al_e (by omega) (by decide), hI_row (by decide), ((f2.tp ht).2.2 q c).1]
            simp only [lt_e]
            have f3 : hI (sI (sI S2 68 10 (nI z)) 68 11 (nI (t q))) 68 8 = nI (tk1 t k p g).2.1 := by rw [hI_ne (by decide), hI_ne (by decide)]; exact a8'
            rw [f3]
            refine out _ (((f2.sI (by decide)).sI (by decide)).sI (by decide)) ⟨?_, ?_, ?_⟩ ⟨fun _ => ?_, fun u => by omega⟩ ⟨fun _ => hI_self _ _ _ _, fun u => by omega⟩
            · rw [hI_ne (by decide), hI_ne (by decide), hI_ne (by decide)]; exact a9
            · rw [hI_ne (by decide)]; exact f3
            · rw [hI_ne (by decide), hI_ne (by decide), hI_self, ek]
            · rw [hI_ne (by decide), hI_self]
          by_cases cw : w = 0
          · rw [if_pos cw]
            exact out2 1 (by rw [t2, if_neg (fun u => by have := hw.mpr u.2; rw [cw] at this; exact absurd this (by decide)), c1]) (Or.inl rfl)
          · rw [if_neg cw]
            have w1 : w = 1 := hw01.resolve_left cw
            exact out2 4 (by rw [t2, if_pos ⟨by omega, hw.mp w1⟩]) (Or.inr rfl)
        · rw [bI_f (fun u => c1 u.2), if_pos rfl, lt_e, e9', p_isFigure hs1 hl ht1 (by omega)]
          by_cases c2 : sb (t q) = 2
          · rw [bI_t ⟨c, c2⟩, if_neg (by decide), lt_e]
            refine ⟨k - q + 1, figures (k - q) q _ w q (by omega) (Nat.le_refl _) (hF1.sI (by decide)) (fun i u1 u2 => by omega) (by rw [hI_ne (by decide)]; exact e9') (by rw [hI_ne (by decide)]; exact e8') (fun _ => by rw [hI_self, Nat.sub_self]; rfl) (fun S2 f2 a9 a8 a11 => ?_)⟩
            have et : (tk1 t k p g).2.1 = we t k 2 (k - q) q := by rw [t1, if_neg (by omega), c2]
            rw [← et] at a8 a11 ⊢
            have out2 : ∀ z : Nat, z = kdT (tk1 t k p g) → BX8_go_261 ln post S2 68 68 (nI z) := fun z ez => by
              unfold BX8_go_261
              simp only [lt_e]
              have f3 : hI (sI S2 68 10 (nI z)) 68 8 = nI (tk1 t k p g).2.1 := by rw [hI_ne (by decide)]; exact a8
              rw [f3]
              have n3 : (tk1 t k p g).2.2 ≠ 3 ∧ (tk1 t k p g).2.2 ≠ 1 := by rw [t2]; split <;> omega
              refine out _ ((f2.sI (by decide)).sI (by decide)) ⟨?_, ?_, ?_⟩ ⟨fun u => absurd u (by omega), fun u => ?_⟩ ⟨fun _ => hI_self _ _ _ _, fun u => absurd u n3.1⟩
              · rw [hI_ne (by decide), hI_ne (by decide)]; exact a9
              · rw [hI_ne (by decide)]; exact f3
              · rw [hI_ne (by decide), hI_self, ez]
              · rw [hI_ne (by decide), hI_ne (by decide)]; exact a11 u.2
            by_cases cw : w = 0 ∧ (tk1 t k p g).2.1 - q ≤ 4
            · rw [if_pos cw]
              refine out2 2 ?_
              unfold kdT
              have e2 : (tk1 t k p g).2.2 = 2 := by rw [t2, if_neg (fun u => by have := hw.mpr u.2; rw [cw.1] at this; exact absurd this (by decide)), c2]
              rw [if_neg (by rw [t0]; omega), e2]
            · rw [if_neg cw]
              unfold BX8_go_256
              refine out2 4 ?_
              unfold kdT
              by_cases cz : w = 0
              · have e2 : (tk1 t k p g).2.2 = 2 := by rw [t2, if_neg (fun u => by have := hw.mpr u.2; rw [cz] at this; exact absurd this (by decide)), c2]
                rw [if_pos ⟨e2, by rw [t0]; exact Nat.lt_of_not_le (fun u => cw ⟨cz, u⟩)⟩]
              · have e4 : (tk1 t k p g).2.2 = 4 := by rw [t2, if_pos ⟨by omega, hw.mp (hw01.resolve_left cz)⟩]
                rw [if_neg (by omega), e4]
          · have c3 : sb (t q) = 3 := by omega
            have e3 : (tk1 t k p g).2.2 = 3 := by rw [t2, if_neg (fun u => u.1 c3), c3]
            have e1 : (tk1 t k p g).2.1 = q + 1 := by rw [t1, if_pos c3]
            rw [bI_f (fun u => c2 u.2), if_pos rfl, lt_e, sh68_6 (hs1.sI _ _ _), dn_e, lt_e, hI_ne (by decide), e9', ln74 hl, al_e (by omega) (by decide), hI_row (by decide), b1.1]
            simp only [lt_e]
            have f3 : hI (sI (sI S1 68 10 3) 68 11 (nI (t q))) 68 8 = nI q := by rw [hI_ne (by decide), hI_ne (by decide)]; exact e8'
            rw [f3, nI_1]
            refine out _ (((hF1.sI (by decide)).sI (by decide)).sI (by decide)) ⟨?_, ?_, ?_⟩ ⟨fun _ => ?_, fun u => by omega⟩ ⟨fun u => absurd e3 u, fun _ j j1 j2 => ?_⟩
            · rw [hI_ne (by decide), hI_ne (by decide), hI_ne (by decide)]; exact e9'
            · rw [hI_self, e1]
            · rw [hI_ne (by decide), hI_ne (by decide), hI_self]
              unfold kdT
              rw [if_neg (by omega), e3]
              rfl
            · rw [hI_ne (by decide), hI_self]
            · rw [hI_ne (by decide), hI_ne (by decide), hI_ne (by decide), e12']
              cases g with
              | true =>
                rw [hg1 rfl]
                exact fun u => by have := (nI_eq (by omega) (by omega)).mp u; omega
              | false => exact hg0 rfl j (by omega) j2
      · have eqk : q = k := by omega
        have lxe : lx t k n p g = [] := by
          cases n with
          | zero => rfl
          | succ n => rw [lx, if_neg (by rw [← eq]; exact c)]
        rw [if_pos (by rw [eqk]), lt_e]
        refine h _ ?_ (hF1.sI (by decide))
        rw [lxe]
        exact ⟨hI_self _ _ _ _, by rw [hI_ne (by decide), e9', eqk]⟩
    unfold BX8_go_38
    rw [lt_e, e8, lt_e, lt_e, hI_self, lt_e, hI_ne (by decide), e12]
    cases g with
    | true =>
      rw [hg1 rfl]
      by_cases c : q = p
      · rw [if_pos (by rw [c])]; exact fin 1 (Or.inr rfl) ⟨fun _ => ⟨rfl, c⟩, fun _ => rfl⟩
      · rw [if_neg (fun u => c ((nI_eq (by omega) (by omega)).mp u))]
        exact fin 0 (Or.inl rfl) ⟨fun u => absurd u (by decide), fun u => absurd u.2 c⟩
    | false =>
      rw [if_neg (fun u => hg0 rfl q hq.1 (by omega) u.symm)]
      exact fin 0 (Or.inl rfl) ⟨fun u => absurd u (by decide), fun u => absurd u.1 (by decide)⟩
  have skip : ∀ m q S', q + m = k → FG S S' → hI S' 68 8 = nI q → hI S' 68 12 = hI S 68 12 → sk t k m q = sk t k (k - p) p → LX8_go_0 ln post (m + 1) S' 68 := by
    intro m
    induction m with
    | zero =>
      intro q S' hq hF e8 e12 es
      rw [LX8_go_0]
      dsimp only
      rw [lt_e, e8, lt_e, (hF.tp ht).2.1, if_pos (nI_le (by omega) (by omega))]
      exact body S' q (by rw [← es, sk]) hF e8 e12
    | succ m ih =>
      intro q S' hq hF e8 e12 es
      have b := (ht.2.2 q (by omega)).2
      rw [LX8_go_0]
      dsimp only
      rw [lt_e, e8, lt_e, (hF.tp ht).2.1, if_neg (nI_ge (by omega) (by omega)), sh68_6 (hF.sh hs), dn_e, lt_e, ln74 hl, al_e (by omega) (by decide), ((hF.tp ht).2.2 q (by omega)).1]
      rw [sk] at es
      by_cases c : t q = 32
      · rw [if_pos ⟨by omega, c⟩] at es
        rw [if_pos (by rw [c]; rfl), lt_e, lt_e, nI_1, lt_e]
        exact ih (q + 1) _ (by omega) (hF.sI (by decide)) (hI_self _ _ _ _) (by rw [hI_ne (by decide)]; exact e12) es
      · rw [if_neg (fun u => c u.2)] at es
        rw [if_neg (show ¬ nI (t q) = 32 from fun u => c ((nI_eq (b := 32) (by omega) (by decide)).mp u))]
        exact body S' q es hF e8 e12
  unfold wpX8_go
  rw [lt_e, h8, lt_e, ht.2.1]
  by_cases c : k ≤ p
  · rw [if_pos (nI_le c (by omega))]
    exact body S p (by rw [show k - p = 0 by omega, sk]) (FG.rf S) h8 rfl
  · have b := (ht.2.2 p (by omega)).2
    rw [if_neg (nI_ge (by omega) (by omega)), sh68_6 hs, dn_e, lt_e, ln74 hl, al_e (by omega) (by decide), (ht.2.2 p (by omega)).1]
    obtain ⟨d, hd⟩ : ∃ d, k - p = d + 1 := ⟨k - p - 1, by omega⟩
    by_cases c2 : t p = 32
    · rw [if_pos (by rw [c2]; rfl), lt_e, lt_e, nI_1, lt_e]
      refine ⟨d + 1, skip d (p + 1) _ (by omega) ((FG.rf S).sI (by decide)) (hI_self _ _ _ _) (hI_ne (by decide)) ?_⟩
      rw [hd, sk, if_pos ⟨by omega, c2⟩]
    · rw [if_neg (show ¬ nI (t p) = 32 from fun u => c2 ((nI_eq (b := 32) (by omega) (by decide)).mp u))]
      exact body S p (by rw [hd, sk, if_neg (fun u => c2 u.2)]) (FG.rf S) h8 rfl
-- 79.prun.lean.txt
/-! text: what words and signs are to both readers; the reference's reading as a function -/
def opL (b : Nat) : Nat := if b = 124 then 0 else if b = 38 then 1 else if b = 60 ∨ b = 61 ∨ b = 62 then 2 else if b = 43 ∨ b = 45 then 3 else if b = 42 ∨ b = 47 then 4 else 9
theorem opL_in {b : Nat} (h : opL b < 9) : b = 124 ∨ b = 38 ∨ b = 60 ∨ b = 61 ∨ b = 62 ∨ b = 43 ∨ b = 45 ∨ b = 42 ∨ b = 47 := by
  unfold opL at h
  repeat' split at h
  all_goals omega
def nmX (key b : Nat) : Nat := if key = 0 then (if b = 102 then 0 else if b = 109 then 1 else if b = 110 then 2 else 9) else if key = 1 then (if b = 121 then 0 else if b = 112 then 1 else 9) else (if b = 97 then 0 else if b = 98 then 1 else 9)
theorem nmX_in {key b : Nat} (h : nmX key b < 9) : nmX key b ≤ 2 ∧ (1 ≤ key → nmX key b ≤ 1) := by
  unfold nmX at h ⊢
  repeat' split at h
  all_goals (repeat' split) <;> omega
/-- what a word or sign is: where it stands; 0 a NUMBER or NAME, 1 a sign between, 2 a not, 3 and 4 brackets, 5 nothing; its number -/
def sy (t : Nat → Nat) (key : Nat) (x : Nat × Nat × Nat) : Nat × Nat × Nat := (x.1, if x.2.2 = 3 then (if t x.1 = 33 then 2 else if t x.1 = 40 then 3 else if t x.1 = 41 then 4 else if opL (t x.1) < 9 then 1 else 5) else if x.2.2 = 2 then (if x.2.1 - x.1 ≤ 4 then 0 else 5) else if x.2.2 = 1 then (if x.2.1 - x.1 = 1 ∧ nmX key (t x.1) < 9 then 0 else 5) else 5, if x.2.2 = 3 then t x.1 else if x.2.2 = 2 then nmF t x.1 (x.2.1 - x.1) else 10000 + nmX key (t x.1))
def sg (b : Nat) : Int32 := trS (nI (20000 + b))
def rk (x : Int32) : Nat := if x = -1 then 1 else if x = -2 then 2 else if x < -5 then (if x < -7 then (if x < -9 then 6 else 5) else 4) else 3
theorem sg_ok {b : Nat} (h : opL b < 9) : rk (sg b) = opL b + 1 ∧ sg b ≠ -11 ∧ sg b ≠ -10 ∧ sg b < 0 ∧ -9 ≤ sg b := by
  rcases opL_in h with e | e | e | e | e | e | e | e | e <;> subst e <;> decide
theorem p_rank {ln : Nat → Nat} {S : HC} {x : Int32} {post : Int32 → HC → Prop} : wpX8_rank ln S x post = post (nI (rk x)) S := by
  unfold wpX8_rank rk
  repeat' split
  all_goals rfl
/-- signs that wait come to the code while they bind as tightly as r -/
def stl (r : Nat) : List Int32 → List Int32 → List Int32 × List Int32
  | [], c => ([], c)
  | x :: W, c => if x = -11 ∨ rk x < r then (x :: W, c) else stl r W (c ++ [x])
def cN : List Int32 → Nat
  | [] => 0
  | x :: W => (if x = -10 then 1 else 0) + cN W
def run (k : Nat) : List (Nat × Nat × Nat) → List Int32 → Nat → List Int32 → List Bool → Nat → Bool → Nat ⊕ (List Int32 × Nat)
  | [], c, a, W, B, _, w => if w = true then .inl k else if B.length ≤ 1 then .inr ((stl 0 W c).2, a) else .inl k
  | x :: ts, c, a, W, B, n, w => if w = true then (if x.2.1 = 2 ∧ n < 8 then run k ts c a (-10 :: W) B (cN (-10 :: W)) true else if x.2.1 = 3 ∧ B.length ≤ 8 then run k ts c a (-11 :: W) (false :: B) (cN (-11 :: W)) true else if x.2.1 = 0 then run k ts (stl 6 W (c ++ [nI x.2.2])).2 (a + 1) (stl 6 W (c ++ [nI x.2.2])).1 B (cN (stl 6 W (c ++ [nI x.2.2])).1) false else .inl x.1) else (if x.2.1 = 4 ∧ 1 < B.length then run k ts (stl 6 (stl 0 W c).1.tail (stl 0 W c).2).2 a (stl 6 (stl 0 W c).1.tail (stl 0 W c).2).1 B.tail (cN (stl 6 (stl 0 W c).1.tail (stl 0 W c).2).1) false else if x.2.1 = 1 ∧ ¬ (opL x.2.2 = 2 ∧ B.headD false = true) then run k ts (stl (opL x.2.2 + 1) W c).2 a (sg x.2.2 :: (stl (opL x.2.2 + 1) W c).1) ((decide (opL x.2.2 = 2) || (decide (2 < opL x.2.2) && B.headD false)) :: B.tail) n true else .inl x.1)
theorem stl_stop {r : Nat} {W c : List Int32} (h : W = [] ∨ ∃ x V, W = x :: V ∧ (x = -11 ∨ rk x < r)) : stl r W c = (W, c) := by
  rcases h with rfl | ⟨x, V, rfl, h⟩
  · rfl
  · rw [stl, if_pos h]
theorem stl_pop {r : Nat} : ∀ (P W c : List Int32), (∀ x, x ∈ P → r ≤ rk x ∧ x ≠ -11) → stl r (P ++ W) c = stl r W (c ++ P) := by
  intro P
  induction P with
  | nil => intro W c _; rw [List.nil_append, List.append_nil]
  | cons x P ih =>
    intro W c h
    obtain ⟨h1, h2⟩ := h x List.mem_cons_self
    rw [List.cons_append, stl, if_neg (fun q => q.elim h2 (fun q => by omega)), ih W (c ++ [x]) (fun y hy => h y (List.mem_cons_of_mem _ hy)), List.append_assoc]
    rfl
theorem cN_app : ∀ P W : List Int32, cN (P ++ W) = cN P + cN W := by
  intro P
  induction P with
  | nil => intro W; simp [cN]
  | cons x P ih => intro W; rw [List.cons_append, cN, cN, ih]; omega
theorem cN_0 : ∀ P : List Int32, (∀ x, x ∈ P → x ≠ -10) → cN P = 0 := by
  intro P
  induction P with
  | nil => intro _; rfl
  | cons x P ih => intro h; rw [cN, if_neg (h x List.mem_cons_self), ih (fun y hy => h y (List.mem_cons_of_mem _ hy))]
/-- a code that leaves one number, as a list -/
def wfL : List Int32 → Nat → Option Nat
  | [], d => some d
  | x :: l, d => match wfS d x with
    | none => none
    | some d2 => wfL l d2
theorem wfL_app : ∀ (a b : List Int32) (d d2 : Nat), wfL a d = some d2 → wfL (a ++ b) d = wfL b d2 := by
  intro a
  induction a with
  | nil => intro b d d2 h; rw [wfL] at h; rw [List.nil_append, Option.some.inj h]
  | cons x a ih =>
    intro b d d2 h
    rw [wfL] at h
    rw [List.cons_append, wfL]
    cases e : wfS d x with
    | none => rw [e] at h; cases h
    | some d3 => rw [e] at h; exact ih b d3 d2 h
theorem wfL_C : ∀ (l : List Int32) (f : Nat → Int32) (i d : Nat), (∀ j, j < l.length → f (i + j) = l.getD j 0) → wfC f l.length i d = wfL l d := by
  intro l
  induction l with
  | nil => intro f i d _; rfl
  | cons x l ih =>
    intro f i d h
    have h0 := h 0 (by simp)
    have e : f i = x := by simpa using h0
    rw [List.length_cons, wfC, wfL, e]
    cases wfS d x with
    | none => rfl
    | some d2 =>
      exact ih f (i + 1) d2 (fun j hj => by
        have := h (j + 1) (by simp; omega)
        rw [show i + 1 + j = i + (j + 1) by omega, this]
        simp)
/-- what a place of a code may be -/
def gCd (key : Nat) (v : Int32) : Prop := 0 ≤ v ∧ (1 ≤ key → trS v ≤ 10001)
theorem trS_low {a : Nat} (h : a < 20000) : trS (nI a) = nI a := by
  have ne : ∀ b : Nat, 20000 ≤ b → b < 30000 → ¬ nI a = nI b := fun b h1 h2 u => by
    have := (nI_eq (by omega) (by omega)).mp u
    omega
  unfold trS
  rw [if_neg (show ¬ nI a = 20124 from ne 20124 (by decide) (by decide)), if_neg (show ¬ nI a = 20038 from ne 20038 (by decide) (by decide)), if_neg (show ¬ nI a = 20060 from ne 20060 (by decide) (by decide)), if_neg (show ¬ nI a = 20061 from ne 20061 (by decide) (by decide)), if_neg (show ¬ nI a = 20062 from ne 20062 (by decide) (by decide)), if_neg (show ¬ nI a = 20043 from ne 20043 (by decide) (by decide)), if_neg (show ¬ nI a = 20045 from ne 20045 (by decide) (by decide)), if_neg (show ¬ nI a = 20042 from ne 20042 (by decide) (by decide)), if_neg (show ¬ nI a = 20047 from ne 20047 (by decide) (by decide)), if_neg (show ¬ nI a = 20033 from ne 20033 (by decide) (by decide))]
-- 80.pread.lean.txt
/-! text: the class's reader, its helpers -/
def CCx (t : Nat → Nat) (k key : Nat) (S : HC) (ts : List (Nat × Nat × Nat)) (cc : List Int32) (lv p nn : Nat) : Prop := (CT t k S ts ∧ TP S t k ∧ SH S) ∧ (hI S 37 10 = -1 ∧ hI S 37 4 = nI key) ∧ (hI S 37 6 = nI cc.length ∧ ∀ i, i < cc.length → hI S 40 i = cc.getD i 0) ∧ hI S 37 7 = nI lv ∧ hI S 37 8 = nI p ∧ hI S 37 9 = nI nn
def FR (S S' : HC) : Prop := (∀ r i, r ≠ 37 → r ≠ 40 → hI S' r i = hI S r i) ∧ ∀ r i, hR S' r i = hR S r i
theorem FR.rf (S : HC) : FR S S := ⟨fun _ _ _ _ => rfl, fun _ _ => rfl⟩
theorem FR.tr {S S' S'' : HC} (h : FR S S') (h2 : FR S' S'') : FR S S'' := ⟨fun r i u1 u2 => (h2.1 r i u1 u2).trans (h.1 r i u1 u2), fun r i => (h2.2 r i).trans (h.2 r i)⟩
theorem FR.s37 {S : HC} {i : Nat} {v : Int32} : FR S (sI S 37 i v) := ⟨fun r j u _ => hI_row u, fun _ _ => rfl⟩
theorem FA.fr {S S' : HC} (h : FA S S') : FR S S' := ⟨fun r i u _ => h.1 r i (fun v => u v.1), h.2⟩
theorem CT.ag {t : Nat → Nat} {k : Nat} {S S' : HC} {ts : List (Nat × Nat × Nat)} (h : CT t k S ts) (e : ∀ i, i = 1 ∨ i = 2 ∨ i = 3 → hI S' 37 i = hI S 37 i) : CT t k S' ts := by
  cases ts with
  | nil => exact ⟨by rw [e 1 (by omega)]; exact h.1, by rw [e 2 (by omega)]; exact h.2⟩
  | cons x r => exact ⟨⟨by rw [e 1 (by omega)]; exact h.1.1, by rw [e 2 (by omega)]; exact h.1.2.1, by rw [e 3 (by omega)]; exact h.1.2.2⟩, h.2⟩
def hdp (k : Nat) : List (Nat × Nat × Nat) → Nat
  | [] => k
  | x :: _ => x.1
theorem CT.hd {t : Nat → Nat} {k : Nat} {S : HC} {ts : List (Nat × Nat × Nat)} (h : CT t k S ts) : hI S 37 2 = nI (hdp k ts) ∧ hdp k ts ≤ k := by
  cases ts with
  | nil => exact ⟨h.2, Nat.le_refl _⟩
  | cons x r => exact ⟨h.1.2.1, by have := h.2.1.1; simp only [hdp]; omega⟩
theorem c_adv {ln : Nat → Nat} {t : Nat → Nat} {k key : Nat} {S : HC} {x : Nat × Nat × Nat} {r : List (Nat × Nat × Nat)} {cc : List Int32} {lv p nn : Nat} {post : HC → Prop} (hl : LN ln) (h : CCx t k key S (x :: r) cc lv p nn) (hx : x.2.2 ≠ 4) (hp : ∀ S', CCx t k key S' r cc lv p nn → FR S S' → post S') : wpX2_advance ln S 37 post := by
  obtain ⟨⟨⟨⟨a1, a2, a3⟩, tok, n, hn, hr⟩, ht, hs⟩, ⟨b1, b2⟩, ⟨c1, c2⟩, d1, d2, d3⟩ := h
  have s3 := tok.2.1
  have fl : decide (x.2.2 = 1 ∨ x.2.2 = 2) = decide (x.2.2 ≠ 3) := by
    rcases (show x.2.2 = 1 ∨ x.2.2 = 2 ∨ x.2.2 = 3 by omega) with e | e | e <;> rw [e] <;> decide
  refine p_adv hs hl ht a1 (by omega) a3 tok.1.2 hn (fun S' hc hf => ?_)
  rw [fl, ← hr] at hc
  exact hp S' ⟨⟨hc, hf.tp ht, hf.sh hs⟩, ⟨by rw [hf.1 37 10 (by omega)]; exact b1, by rw [hf.1 37 4 (by omega)]; exact b2⟩, ⟨by rw [hf.1 37 6 (by omega)]; exact c1, fun i hi => by rw [hf.1 40 i (by omega)]; exact c2 i hi⟩, by rw [hf.1 37 7 (by omega)]; exact d1, by rw [hf.1 37 8 (by omega)]; exact d2, by rw [hf.1 37 9 (by omega)]; exact d3⟩ hf.fr
theorem c_write {ln : Nat → Nat} {t : Nat → Nat} {k key : Nat} {S : HC} {ts : List (Nat × Nat × Nat)} {cc : List Int32} {lv p nn : Nat} {v : Int32} {post : HC → Prop} (hl : LN ln) (h : CCx t k key S ts cc lv p nn) (h96 : cc.length < 96) (hp : ∀ S', CCx t k key S' ts (cc ++ [v]) lv p nn → FR S S' → post S') : wpX2_write ln S 37 v post := by
  obtain ⟨⟨ct, ht, hs⟩, ⟨b1, b2⟩, ⟨c1, c2⟩, d1, d2, d3⟩ := h
  unfold wpX2_write
  rw [lt_e, c1, if_neg (nI_pos (by omega)), lt_e, if_neg (show ¬ (96 : Int32) ≤ nI cc.length from nI_ge (b := 96) h96 (by decide)), sh37_5 hs, dn_e, lt_e, ln40 hl, as_e h96 (by decide), lt_e, hI_row (by decide), c1, lt_e, nI_1, lt_e]
  have e : ∀ i, i ≠ 6 → hI (sI (sI S 40 cc.length v) 37 6 (nI (cc.length + 1))) 37 i = hI S 37 i := fun i u => by rw [hI_ne (by omega), hI_row (by decide)]
  refine hp _ ⟨⟨ct.ag (fun i u => e i (by omega)), ht.ag (fun r i u => by rw [hI_row (by omega), hI_row (by omega)]), (hs.sI _ _ _).sI _ _ _⟩, ⟨by rw [e _ (by decide)]; exact b1, by rw [e _ (by decide)]; exact b2⟩, ⟨by rw [hI_self, List.length_append]; rfl, fun i hi => ?_⟩, by rw [e _ (by decide)]; exact d1, by rw [e _ (by decide)]; exact d2, by rw [e _ (by decide)]; exact d3⟩ ⟨fun r i u1 u2 => by rw [hI_row u1, hI_row u2], fun _ _ => rfl⟩
  rw [hI_row (by decide)]
  rw [List.length_append] at hi
  have hi2 : i < cc.length + 1 := hi
  by_cases q : i = cc.length
  · rw [q, hI_self]
    simp [List.getD, List.getElem?_append]
  · rw [hI_ne (by omega), c2 i (by omega)]
    simp [List.getD, List.getElem?_append, show i < cc.length by omega]
theorem x_write {ln : Nat → Nat} {S : HC} {v : Int32} {post : HC → Prop} (hs : SH S) (hl : LN ln) (hp : ∀ S', FR S S' → hI S' 37 10 = hI S 37 10 → SH S' → post S') : wpX2_write ln S 37 v post := by
  unfold wpX2_write
  rw [lt_e, lt_e]
  by_cases c1 : hI S 37 6 < 0
  · rw [if_pos c1]; exact hp S (FR.rf S) rfl hs
  rw [if_neg c1]
  by_cases c2 : 96 ≤ hI S 37 6
  · rw [if_pos c2]; exact hp S (FR.rf S) rfl hs
  rw [if_neg c2, sh37_5 hs, dn_e, lt_e]
  obtain ⟨j, hj, ej⟩ := ge_of (x := hI S 37 6) (n := 96) (by decide) ⟨Int32.not_lt.mp c1, Int32.not_le.mp c2⟩
  rw [ej, ln40 hl, as_e hj (by decide), lt_e, lt_e, lt_e]
  exact hp _ ⟨fun r i u1 u2 => by rw [hI_row u1, hI_row u2], fun _ _ => rfl⟩ (by rw [hI_ne (by decide), hI_row (by decide)]) ((hs.sI _ _ _).sI _ _ _)
def lvl (t : Nat → Nat) : List (Nat × Nat × Nat) → Int32
  | [] => -1
  | x :: _ => if x.2.2 = 3 ∧ opL (t x.1) < 9 then nI (opL (t x.1)) else -1
theorem opL_out {b : Nat} (h : ¬ opL b < 9) : b ≠ 124 ∧ b ≠ 38 ∧ b ≠ 60 ∧ b ≠ 61 ∧ b ≠ 62 ∧ b ≠ 43 ∧ b ≠ 45 ∧ b ≠ 42 ∧ b ≠ 47 := by
  refine ⟨?_, ?_, ?_, ?_, ?_, ?_, ?_, ?_, ?_⟩ <;> (intro e; subst e; exact h (by decide))
theorem c_level {ln : Nat → Nat} {t : Nat → Nat} {k key : Nat} {S : HC} {ts : List (Nat × Nat × Nat)} {cc : List Int32} {lv p nn : Nat} {post : Int32 → HC → Prop} (hl : LN ln) (h : CCx t k key S ts cc lv p nn) : wpX2_levelHere ln S 37 post = post (lvl t ts) S := by
  obtain ⟨⟨ct, ht, hs⟩, -⟩ := h
  unfold wpX2_levelHere BX2_levelHere_108 BX2_levelHere_110 BX2_levelHere_112
  cases ts with
  | nil => rw [lt_e, ct.1, if_neg (by decide)]; rfl
  | cons x r =>
    obtain ⟨⟨a1, a2, a3⟩, tok, -⟩ := ct
    have h96 := ht.1
    have hq : x.1 < k := by have := tok.1; omega
    have b := (ht.2.2 x.1 hq).2
    have s4 := tok.2.1
    rw [lt_e, a1, lvl]
    by_cases c : x.2.2 = 3
    · rw [if_pos (by rw [c]; rfl), sh37_0 hs, dn_e, lt_e, a2, p_at hs hl ht (by omega), if_pos hq]
      by_cases c2 : opL (t x.1) < 9
      · rw [if_pos (show x.2.2 = 3 ∧ opL (t x.1) < 9 from ⟨c, c2⟩)]
        rcases opL_in c2 with e | e | e | e | e | e | e | e | e <;> rw [e] <;> rfl
      · rw [if_neg (show ¬ (x.2.2 = 3 ∧ opL (t x.1) < 9) from fun u => c2 u.2)]
        obtain ⟨o1, o2, o3, o4, o5, o6, o7, o8, o9⟩ := opL_out c2
        have ne : ∀ n : Nat, n < 256 → t x.1 ≠ n → ¬ nI (t x.1) = nI n := fun n hn u v => u ((nI_eq (by omega) (by omega)).mp v)
        rw [if_neg (show ¬ nI (t x.1) = 38 from ne 38 (by decide) o2), if_neg (show ¬ nI (t x.1) = 42 from ne 42 (by decide) o8), if_neg (show ¬ nI (t x.1) = 43 from ne 43 (by decide) o6), if_neg (show ¬ nI (t x.1) = 45 from ne 45 (by decide) o7), if_neg (show ¬ nI (t x.1) = 47 from ne 47 (by decide) o9), if_neg (show ¬ nI (t x.1) = 60 from ne 60 (by decide) o3), if_neg (show ¬ nI (t x.1) = 61 from ne 61 (by decide) o4), if_neg (show ¬ nI (t x.1) = 62 from ne 62 (by decide) o5), if_neg (show ¬ nI (t x.1) = 124 from ne 124 (by decide) o1)]
    · rw [if_neg (show ¬ nI x.2.2 = 3 from fun u => c ((nI_eq (b := 3) (by omega) (by decide)).mp u)), if_neg (show ¬ (x.2.2 = 3 ∧ opL (t x.1) < 9) from fun u => c u.1)]
theorem c_sign {ln : Nat → Nat} {t : Nat → Nat} {k key : Nat} {S : HC} {x : Nat × Nat × Nat} {r : List (Nat × Nat × Nat)} {cc : List Int32} {lv p nn c : Nat} {post : Int32 → HC → Prop} (hl : LN ln) (h : CCx t k key S (x :: r) cc lv p nn) (hc : c < 256) : wpX2_isSign ln S 37 (nI c) post = post (bI (x.2.2 = 3 ∧ t x.1 = c)) S := by
  obtain ⟨⟨⟨⟨a1, a2, a3⟩, tok, -⟩, ht, hs⟩, -⟩ := h
  have h96 := ht.1
  have hq : x.1 < k := by have := tok.1; omega
  have b := (ht.2.2 x.1 hq).2
  have s4 := tok.2.1
  unfold wpX2_isSign BX2_isSign_27
  simp only [rb_e0, rb_e1]
  rw [lt_e, a1]
  by_cases c1 : x.2.2 = 3
  · rw [if_pos (by rw [c1]; rfl), sh37_0 hs, dn_e, lt_e, a2, p_at hs hl ht (by omega), if_pos hq]
    by_cases c2 : t x.1 = c
    · rw [if_pos (by rw [c2]), bI_t ⟨c1, c2⟩]
    · rw [if_neg (fun u => c2 ((nI_eq (by omega) (by omega)).mp u)), bI_f (fun u => c2 u.2)]
  · rw [if_neg (show ¬ nI x.2.2 = 3 from fun u => c1 ((nI_eq (b := 3) (by omega) (by decide)).mp u)), bI_f (fun u => c1 u.1)]
theorem c_sign0 {ln : Nat → Nat} {t : Nat → Nat} {k key : Nat} {S : HC} {cc : List Int32} {lv p nn : Nat} {c : Int32} {post : Int32 → HC → Prop} (h : CCx t k key S [] cc lv p nn) : wpX2_isSign ln S 37 c post = post 0 S := by
  unfold wpX2_isSign BX2_isSign_27
  rw [lt_e, h.1.1.1, if_neg (by decide), rb_e0]
theorem c_fail {ln : Nat → Nat} {t : Nat → Nat} {k key : Nat} {S : HC} {ts : List (Nat × Nat × Nat)} {cc : List Int32} {lv p nn : Nat} {post : HC → Prop} (h : CCx t k key S ts cc lv p nn) (hp : ∀ S', FR S S' → hI S' 37 10 = nI (hdp k ts) → SH S' → post S') : wpX2_fail ln S 37 post := by
  obtain ⟨⟨ct, ht, hs⟩, ⟨b1, b2⟩, -⟩ := h
  unfold wpX2_fail
  rw [lt_e, b1, if_neg (by decide), lt_e, ct.hd.1, lt_e]
  exact hp _ FR.s37 (hI_self _ _ _ _) (hs.sI _ _ _)
theorem x_fail {ln : Nat → Nat} {S : HC} {f : Nat} {post : HC → Prop} (h : hI S 37 10 = nI f) (hf : f ≤ 96) (hp : post S) : wpX2_fail ln S 37 post := by
  unfold wpX2_fail
  rw [lt_e, h, if_pos (nI_pos' (by omega))]
  exact hp
/-- a NUMBER, the class's side -/
theorem c_number {ln : Nat → Nat} {t : Nat → Nat} {k key : Nat} {S : HC} {x : Nat × Nat × Nat} {r : List (Nat × Nat × Nat)} {cc : List Int32} {lv p nn : Nat} {post : Int32 → HC → Prop} (hl : LN ln) (h : CCx t k key S (x :: r) cc lv p nn) (hx : x.2.2 = 2) (hp : post (if x.2.1 - x.1 ≤ 4 then nI (nmF t x.1 (x.2.1 - x.1)) else -1) S) : wpX2_numberHere ln S 37 post := by
  obtain ⟨⟨⟨⟨a1, a2, a3⟩, tok, -⟩, ht, hs⟩, -⟩ := h
  have h96 := ht.1
  have hq := tok.1
  unfold wpX2_numberHere
  rw [lt_e, a3, lt_e, a2, lt_e, pk_sub (by omega)]
  by_cases c : x.2.1 - x.1 ≤ 4
  · rw [if_pos c] at hp
    rw [if_pos (show nI (x.2.1 - x.1) ≤ 4 from nI_le (b := 4) c (by decide)), lt_e]
    have key : ∀ m j, j + m = x.2.1 - x.1 → LX2_numberHere_22 ln post (m + 1) S 37 (nI (nmF t x.1 j)) (nI (x.1 + j)) := by
      intro m
      induction m with
      | zero =>
        intro j hj
        rw [LX2_numberHere_22]
        dsimp only
        rw [lt_e, a3, if_pos (nI_le (by omega) (by omega)), show j = x.2.1 - x.1 by omega]
        exact hp
      | succ m ih =>
        intro j hj
        have dg := sb_dig ((tok.2.2.2.2 (Or.inr hx) (x.1 + j) (by omega) (by omega)).trans hx)
        rw [LX2_numberHere_22]
        dsimp only
        rw [lt_e, a3, if_neg (nI_ge (by omega) (by omega)), lt_e, sh37_0 hs, dn_e, p_at hs hl ht (by omega), if_pos (show x.1 + j < k by omega)]
        simp only [lt_e]
        rw [nm_step dg.1, nI_1]
        exact ih (j + 1) (by omega)
    have e := key (x.2.1 - x.1) 0 (by omega)
    exact ⟨_, e⟩
  · rw [if_neg c] at hp
    rw [if_neg (show ¬ nI (x.2.1 - x.1) ≤ 4 from nI_ge (a := 4) (by omega) (by omega))]
    exact hp
-- 81.pleaf.lean.txt
/-! text: names, the class's side -/
theorem rb_by0 (K : Prop) : rb_ .byte 0 K = K := by simp [rb_, narrow]
theorem i8_e : ∀ b : Fin 128, (nI b.val).toInt8.toInt32 = nI b.val := by decide +kernel
theorem ch_e {b : Nat} (hb : b < 256) : ((nI b).toUInt32 % 65536).toInt32 = nI b := by
  rw [pk_char, pk_tn (by omega), Nat.mod_eq_of_lt (by omega)]
def srch (f : Nat → Int32) (v : Int32) : Nat → Nat → Int32
  | 0, _ => -1
  | m + 1, i => if f i = v then nI i else srch f v m (i + 1)
theorem p_srch {ln : Nat → Nat} {S : HC} {a0 len : Nat} {v : Int32} {post : Int32 → HC → Prop} (hl : strL.getD a0 0 = len) (h9 : len < 9) : ∀ m i, i + m = len → post (srch (fun j => (strB.getD a0 []).getD j 0) v m i) S → LJ1_indexOfChar_4cfef_7 ln post (m + 1) S a0 (nI len) v (nI i) := by
  intro m
  induction m with
  | zero =>
    intro i hi h
    rw [LJ1_indexOfChar_4cfef_7]
    dsimp only
    rw [if_pos (nI_le (by omega) (by omega))]
    rw [srch] at h
    exact h
  | succ m ih =>
    intro i hi h
    rw [LJ1_indexOfChar_4cfef_7]
    dsimp only
    rw [if_neg (nI_ge (by omega) (by omega)), hl, al_e (by omega) (by omega)]
    rw [srch] at h
    by_cases c : (strB.getD a0 []).getD i 0 = v
    · rw [if_pos c] at h ⊢; exact h
    · rw [if_neg c] at h ⊢
      rw [lt_e, nI_1]
      exact ih (i + 1) (by omega) h
theorem srch_e {key b : Nat} (hk : key < 3) (hb : b < 128) : srch (fun j => (strB.getD (3 + key) []).getD j 0) (nI b) (strL.getD (3 + key) 0) 0 = if nmX key b < 9 then nI (nmX key b) else -1 := by
  have e : ∀ key : Fin 3, ∀ b : Fin 128, srch (fun j => (strB.getD (3 + key.val) []).getD j 0) (nI b.val) (strL.getD (3 + key.val) 0) 0 = if nmX key.val b.val < 9 then nI (nmX key.val b.val) else -1 := by decide +kernel
  exact e ⟨key, hk⟩ ⟨b, hb⟩
theorem c_index {ln : Nat → Nat} {S : HC} {key b : Nat} {post : Int32 → HC → Prop} (hk : key < 3) (hb : b < 128) (h : post (if nmX key b < 9 then nI (nmX key b) else -1) S) : wpJ0_indexOf_0f7a4 ln S (3 + key) (nI b) post := by
  unfold wpJ0_indexOf_0f7a4 wpJ0_indexOf_7cf53 wpJ0_isLatin1_aae02
  rw [if_neg (by decide), if_pos rfl, rb_e1]
  dsimp only
  rw [if_neg (by decide)]
  unfold wpJ0_length_8abf5 wpJ0_coder_7d493
  rw [lt_e, if_neg (by decide), rb_by0]
  try dsimp only
  rw [lt_e]
  have el : ∃ len, strL.getD (3 + key) 0 = len ∧ 0 < len ∧ len < 9 ∧ nI len >>> ((0 : Int32) &&& 31) = nI len := by
    rcases (show key = 0 ∨ key = 1 ∨ key = 2 by omega) with e | e | e <;> subst e
    · exact ⟨3, rfl, by decide, by decide, by decide⟩
    · exact ⟨2, rfl, by decide, by decide, by decide⟩
    · exact ⟨2, rfl, by decide, by decide, by decide⟩
  obtain ⟨len, e1, e2, e3, e4⟩ := el
  have es := srch_e hk hb
  rw [e1] at es ⊢
  rw [e4]
  unfold wpJ1_indexOf_4cfef wpJ1_canEncode_9a6ad
  rw [if_neg (nI_pos (by omega)), if_neg (show ¬ (255 : Int32) < nI b from nI_nlt (a := 255) (by omega) (by decide)), rb_e1]
  try dsimp only
  rw [if_neg (by decide)]
  simp only [lt_e]
  rw [if_neg (show ¬ (0 : Int32) < 0 by decide), e1, if_neg (show ¬ nI len < nI len from nI_nlt (Nat.le_refl _) (by omega)), if_pos (show (0 : Int32) < nI len from nI_lt (a := 0) e2 (by omega))]
  unfold wpJ1_indexOfChar_4cfef
  rw [lt_e, i8_e ⟨b, hb⟩]
  refine ⟨len + 1, p_srch e1 e3 len 0 (by omega) ?_⟩
  rw [es]
  exact h
theorem c_name {ln : Nat → Nat} {t : Nat → Nat} {k key : Nat} {S : HC} {x : Nat × Nat × Nat} {r : List (Nat × Nat × Nat)} {cc : List Int32} {lv p nn : Nat} {post : Int32 → HC → Prop} (hl : LN ln) (hk3 : key < 3) (h : CCx t k key S (x :: r) cc lv p nn) (hx : x.2.2 ≠ 2) (hp : post (if x.2.2 = 1 ∧ x.2.1 - x.1 = 1 ∧ nmX key (t x.1) < 9 then nI (10000 + nmX key (t x.1)) else -1) S) : wpX2_nameHere ln S 37 post := by
  obtain ⟨⟨⟨⟨a1, a2, a3⟩, tok, -⟩, ht, hs⟩, ⟨b1, b2⟩, -⟩ := h
  have h96 := ht.1
  have hq := tok.1
  have s4 := tok.2.1
  unfold wpX2_nameHere BX2_nameHere_21
  rw [lt_e, a1]
  by_cases c1 : x.2.2 = 1
  · have sbq := (tok.2.2.1 (by omega)).trans c1
    have lt128 : t x.1 < 128 := by
      unfold sb at sbq
      by_cases d : 97 ≤ t x.1 ∧ t x.1 ≤ 122
      · omega
      · rw [if_neg d] at sbq; split at sbq <;> omega
    rw [if_pos (by rw [c1]; rfl), lt_e, a3, lt_e, a2, lt_e, pk_sub (by omega)]
    by_cases c2 : x.2.1 - x.1 = 1
    · rw [if_pos (by rw [c2]; rfl)]
      have fin : BX2_nameHere_50 ln post S 37 (3 + key) := by
        unfold BX2_nameHere_50
        rw [sh37_0 hs, dn_e, lt_e, a2, p_at hs hl ht (by omega), if_pos (show x.1 < k by omega), lt_e, ch_e (by omega)]
        refine c_index hk3 lt128 ?_
        by_cases c3 : nmX key (t x.1) < 9
        · rw [if_pos ⟨c1, c2, c3⟩] at hp
          rw [if_pos c3, if_pos (nI_pos' (by omega)), lt_e, show (10000 : Int32) + nI (nmX key (t x.1)) = nI (10000 + nmX key (t x.1)) from nI_add 10000 _]
          exact hp
        · rw [if_neg (fun u => c3 u.2.2)] at hp
          rw [if_neg c3, if_neg (by decide)]
          exact hp
      rw [lt_e, b2]
      rcases (show key = 0 ∨ key = 1 ∨ key = 2 by omega) with e | e | e
      · rw [if_pos (by rw [e]; rfl)]; rw [e] at fin; exact fin
      · rw [if_neg (by rw [e]; decide), lt_e, if_pos (by rw [e]; rfl)]; rw [e] at fin; exact fin
      · rw [if_neg (by rw [e]; decide), lt_e, if_neg (by rw [e]; decide)]; rw [e] at fin; exact fin
    · rw [if_neg (fun u => c2 u.2.1)] at hp
      rw [if_neg (show ¬ nI (x.2.1 - x.1) = 1 from fun u => c2 ((nI_eq (b := 1) (by omega) (by decide)).mp u))]
      exact hp
  · rw [if_neg (fun u => c1 u.1)] at hp
    rw [if_neg (show ¬ nI x.2.2 = 1 from fun u => c1 ((nI_eq (b := 1) (by omega) (by decide)).mp u))]
    exact hp
theorem c_name0 {ln : Nat → Nat} {t : Nat → Nat} {k key : Nat} {S : HC} {cc : List Int32} {lv p nn : Nat} {post : Int32 → HC → Prop} (h : CCx t k key S [] cc lv p nn) (hp : post (-1) S) : wpX2_nameHere ln S 37 post := by
  unfold wpX2_nameHere BX2_nameHere_21
  rw [lt_e, h.1.1.1, if_neg (by decide)]
  exact hp
theorem sy_leaf {t : Nat → Nat} {key k : Nat} {x : Nat × Nat × Nat} (tok : TOK t k x.1 x.2.1 x.2.2) (h : (sy t key x).2.1 = 0) : (x.2.2 = 2 ∧ x.2.1 - x.1 ≤ 4 ∧ (sy t key x).2.2 = nmF t x.1 (x.2.1 - x.1) ∧ (sy t key x).2.2 < 10000) ∨ (x.2.2 = 1 ∧ (x.2.1 - x.1 = 1 ∧ nmX key (t x.1) < 9) ∧ (sy t key x).2.2 = 10000 + nmX key (t x.1)) := by
  unfold sy at h ⊢
  dsimp only at h ⊢
  by_cases c3 : x.2.2 = 3
  · rw [if_pos c3] at h
    repeat' split at h
    all_goals omega
  rw [if_neg c3] at h
  by_cases c2 : x.2.2 = 2
  · rw [if_pos c2] at h
    by_cases c4 : x.2.1 - x.1 ≤ 4
    · refine Or.inl ⟨c2, c4, by rw [if_neg c3, if_pos c2], ?_⟩
      rw [if_neg c3, if_pos c2]
      have lt := nmF_lt (t := t) (q := x.1) (x.2.1 - x.1) (fun i hi => (tok.2.2.2.2 (Or.inr c2) (x.1 + i) (by omega) (by omega)).trans c2)
      have : 10 ^ (x.2.1 - x.1) ≤ 10 ^ 4 := Nat.pow_le_pow_right (by decide) c4
      omega
    · rw [if_neg c4] at h; omega
  rw [if_neg c2] at h
  by_cases c1 : x.2.2 = 1
  · rw [if_pos c1] at h
    by_cases c : x.2.1 - x.1 = 1 ∧ nmX key (t x.1) < 9
    · exact Or.inr ⟨c1, c, by rw [if_neg c3, if_neg c2]⟩
    · rw [if_neg c] at h; omega
  · rw [if_neg c1] at h; omega
theorem sy_not {t : Nat → Nat} {key : Nat} {x : Nat × Nat × Nat} (h : (sy t key x).2.1 ≠ 0) : (x.2.2 = 2 → ¬ x.2.1 - x.1 ≤ 4) ∧ ¬ (x.2.2 = 1 ∧ x.2.1 - x.1 = 1 ∧ nmX key (t x.1) < 9) := by
  unfold sy at h
  dsimp only at h
  refine ⟨fun u v => ?_, fun u => ?_⟩
  · rw [if_neg (by omega), if_pos u, if_pos v] at h
    exact h rfl
  · rw [if_neg (by omega), if_neg (by omega), if_pos u.1, if_pos u.2] at h
    exact h rfl
/-- a NUMBER or NAME is read, or it is none -/
theorem c_leaf {ln : Nat → Nat} {t : Nat → Nat} {k key : Nat} {S : HC} {ts : List (Nat × Nat × Nat)} {cc : List Int32} {lv p nn : Nat} {post : HC → Prop} (hl : LN ln) (hk3 : key < 3) (h : CCx t k key S ts cc lv p nn) (h96 : cc.length < 96) (hp : ∀ S' x r, ts = x :: r → (sy t key x).2.1 = 0 → CCx t k key S' r (cc ++ [nI (sy t key x).2.2]) (lv + 1) p nn → FR S S' → post S') (hf : ∀ S', (∀ x r, ts = x :: r → (sy t key x).2.1 ≠ 0) → FR S S' → hI S' 37 10 = nI (hdp k ts) → SH S' → post S') : wpX2_readLeaf ln S 37 post := by
  unfold wpX2_readLeaf
  rw [lt_e]
  have bad : (∀ x r, ts = x :: r → (sy t key x).2.1 ≠ 0) → BX2_readLeaf_19 ln post S 37 (-1) := fun u => by
    unfold BX2_readLeaf_19
    rw [if_neg (by decide)]
    exact c_fail h (fun S' f1 f2 f3 => hf S' u f1 f2 f3)
  cases ts with
  | nil =>
    rw [h.1.1.1, if_neg (by decide)]
    exact c_name0 h (bad (fun x r u => by cases u))
  | cons x r =>
    have tok := h.1.1.2.1
    have a1 := h.1.1.1.1
    have s4 := tok.2.1
    have good : (sy t key x).2.1 = 0 → (sy t key x).2.2 < 20000 → x.2.2 ≠ 4 → BX2_readLeaf_19 ln post S 37 (nI (sy t key x).2.2) := fun u1 u2 u3 => by
      unfold BX2_readLeaf_19
      rw [if_pos (nI_pos' (by omega))]
      refine c_write hl h h96 (fun S1 h1 f1 => ?_)
      rw [lt_e, h1.2.2.2.1, lt_e, nI_1, lt_e]
      have h2 : CCx t k key (sI S1 37 7 (nI (lv + 1))) (x :: r) (cc ++ [nI (sy t key x).2.2]) (lv + 1) p nn := by
        obtain ⟨⟨ct, ht, hs⟩, ⟨b1, b2⟩, ⟨c1, c2⟩, d1, d2, d3⟩ := h1
        exact ⟨⟨ct.ag (fun i u => hI_ne (by omega)), ht.ag (fun r i u => hI_row (by omega)), hs.sI _ _ _⟩, ⟨by rw [hI_ne (by decide)]; exact b1, by rw [hI_ne (by decide)]; exact b2⟩, ⟨by rw [hI_ne (by decide)]; exact c1, fun i hi => by rw [hI_row (by decide)]; exact c2 i hi⟩, hI_self _ _ _ _, by rw [hI_ne (by decide)]; exact d2, by rw [hI_ne (by decide)]; exact d3⟩
      exact c_adv hl h2 u3 (fun S3 h3 f3 => hp S3 x r rfl u1 h3 ((f1.tr FR.s37).tr f3))
    rw [a1]
    by_cases c2 : x.2.2 = 2
    · rw [if_pos (by rw [c2]; rfl)]
      refine c_number hl h c2 ?_
      by_cases c : (sy t key x).2.1 = 0
      · rcases sy_leaf tok c with ⟨_, e2, e3, e4⟩ | ⟨e1, _⟩
        · rw [if_pos e2, ← e3]; exact good c (by omega) (by omega)
        · omega
      · rw [if_neg ((sy_not c).1 c2)]
        exact bad (fun y r' u => by cases u; exact c)
    · rw [if_neg (show ¬ nI x.2.2 = 2 from fun u => c2 ((nI_eq (b := 2) (by omega) (by decide)).mp u))]
      refine c_name hl hk3 h c2 ?_
      by_cases c : (sy t key x).2.1 = 0
      · rcases sy_leaf tok c with ⟨e1, _⟩ | ⟨e1, e2, e3⟩
        · omega
        · have := nmX_in e2.2
          rw [if_pos ⟨e1, e2.1, e2.2⟩, ← e3]; exact good c (by omega) (by omega)
      · rw [if_neg (sy_not c).2]
        exact bad (fun y r' u => by cases u; exact c)
-- 82.psim.lean.txt
/-! text: what the class reads is what the reference's reading comes to -/
def ENT (level : Nat) (W : List Int32) (b : Bool) : Prop := (W = [] ∨ ∃ x V, W = x :: V ∧ (x = -11 ∨ rk x ≤ level)) ∧ (level ≤ 2 → b = false)
def TOPN (W : List Int32) : Prop := W = [] ∨ ∃ x V, W = x :: V ∧ (x = -11 ∨ rk x < 6)
def XC (t : Nat → Nat) (key level : Nat) (b : Bool) : List (Nat × Nat × Nat) → Prop
  | [] => True
  | x :: _ => (sy t key x).2.1 = 1 → opL (sy t key x).2.2 < level ∨ (opL (sy t key x).2.2 = 2 ∧ b = true)
def RC (P : List Int32) (level : Nat) : Prop := ∀ x, x ∈ P → level + 1 ≤ rk x ∧ x ≠ -11 ∧ x ≠ -10
def SIML (t : Nat → Nat) (k key level : Nat) (ts : List (Nat × Nat × Nat)) (cc : List Int32) (lv p nn : Nat) (ts' : List (Nat × Nat × Nat)) (cc' : List Int32) (lv' : Nat) : Prop := ∀ W B b, ENT level W b → cN W = nn → B.length = p → ∃ P rc b', run k (ts.map (sy t key)) (cc.map trS) lv W (b :: B) nn true = run k (ts'.map (sy t key)) rc lv' (P ++ W) (b' :: B) nn false ∧ rc ++ P = cc'.map trS ∧ RC P level ∧ (3 ≤ level → b' = b) ∧ XC t key level b' ts'
def FLL (t : Nat → Nat) (k key level : Nat) (ts : List (Nat × Nat × Nat)) (cc : List Int32) (lv p nn f : Nat) : Prop := ∀ W B b, ENT level W b → cN W = nn → B.length = p → run k (ts.map (sy t key)) (cc.map trS) lv W (b :: B) nn true = .inl f
def SIMP (t : Nat → Nat) (k key : Nat) (ts : List (Nat × Nat × Nat)) (cc : List Int32) (lv p nn : Nat) (ts' : List (Nat × Nat × Nat)) (cc' : List Int32) (lv' : Nat) : Prop := ∀ j W B b, TOPN W → cN (List.replicate j (-10) ++ W) = nn → B.length = p → run k (ts.map (sy t key)) (cc.map trS) lv (List.replicate j (-10) ++ W) (b :: B) nn true = run k (ts'.map (sy t key)) (cc'.map trS ++ List.replicate j (-10)) lv' W (b :: B) (cN W) false
def FLP (t : Nat → Nat) (k key : Nat) (ts : List (Nat × Nat × Nat)) (cc : List Int32) (lv p nn f : Nat) : Prop := ∀ j W B b, TOPN W → cN (List.replicate j (-10) ++ W) = nn → B.length = p → run k (ts.map (sy t key)) (cc.map trS) lv (List.replicate j (-10) ++ W) (b :: B) nn true = .inl f
/-- what was read behind: it leaves one number, and is no longer than what was used up -/
def GR (key : Nat) (ts : List (Nat × Nat × Nat)) (g : List Int32) (ts' : List (Nat × Nat × Nat)) : Prop := (∀ v, v ∈ g → gCd key v) ∧ (∀ d, wfL (g.map trS) d = some (d + 1)) ∧ g.length + ts'.length ≤ ts.length
def CL (ln : Nat → Nat) (t : Nat → Nat) (k key d : Nat) : Prop := ∀ (S : HC) (ts : List (Nat × Nat × Nat)) (cc : List Int32) (lv p nn level : Nat) (post : HC → Prop), level ≤ 5 → 7 - level + 7 * (8 - p) + (8 - nn) ≤ d → p ≤ 8 → nn ≤ 8 → CCx t k key S ts cc lv p nn → cc.length + ts.length ≤ 96 → (∀ S' ts' g lv', CCx t k key S' ts' (cc ++ g) lv' p nn → FR S S' → GR key ts g ts' → SIML t k key level ts cc lv p nn ts' (cc ++ g) lv' → post S') → (∀ S' f, FR S S' → hI S' 37 10 = nI f → f ≤ 96 → SH S' → FLL t k key level ts cc lv p nn f → post S') → (wpRec ln d).1 S 37 (nI level) post
def CP (ln : Nat → Nat) (t : Nat → Nat) (k key d : Nat) : Prop := ∀ (S : HC) (ts : List (Nat × Nat × Nat)) (cc : List Int32) (lv p nn : Nat) (post : HC → Prop), 1 + 7 * (8 - p) + (8 - nn) ≤ d → p ≤ 8 → nn ≤ 8 → CCx t k key S ts cc lv p nn → cc.length + ts.length ≤ 96 → (∀ S' ts' g lv', CCx t k key S' ts' (cc ++ g) lv' p nn → FR S S' → GR key ts g ts' → SIMP t k key ts cc lv p nn ts' (cc ++ g) lv' → post S') → (∀ S' f, FR S S' → hI S' 37 10 = nI f → f ≤ 96 → SH S' → FLP t k key ts cc lv p nn f → post S') → (wpRec ln d).2 S 37 post
theorem run_nil {k : Nat} {c : List Int32} {a : Nat} {W : List Int32} {B : List Bool} {n : Nat} {w : Bool} : run k [] c a W B n w = if w = true then .inl k else if B.length ≤ 1 then .inr ((stl 0 W c).2, a) else .inl k := rfl
theorem stl_nots {j : Nat} {W c : List Int32} (h : TOPN W) : stl 6 (List.replicate j (-10) ++ W) c = (W, c ++ List.replicate j (-10)) := by
  rw [stl_pop (List.replicate j (-10)) W c (fun x hx => by rw [List.eq_of_mem_replicate hx]; decide)]
  exact stl_stop h
/-- nothing goes on here -/
theorem run_stop {t : Nat → Nat} {k key : Nat} {ts : List (Nat × Nat × Nat)} {c : List Int32} {a : Nat} {W : List Int32} {b : Bool} {B : List Bool} {n : Nat} (hx : XC t key 0 b ts) (h1 : ts = [] → B ≠ []) (h2 : ∀ x r, ts = x :: r → (sy t key x).2.1 = 4 → B = []) : run k (ts.map (sy t key)) c a W (b :: B) n false = .inl (hdp k ts) := by
  cases ts with
  | nil =>
    have hB := h1 rfl
    rw [List.map_nil, run_nil, if_neg (by decide), if_neg]
    · rfl
    · intro u
      cases B with
      | nil => exact hB rfl
      | cons b2 B => simp at u
  | cons x r =>
    rw [List.map_cons, run, if_neg (by decide)]
    have e1 : (sy t key x).1 = x.1 := rfl
    rw [if_neg (fun u => by
      have := h2 x r rfl u.1
      rw [this] at u
      simp at u), if_neg (fun u => by
      rcases hx u.1 with q | q
      · omega
      · exact u.2 ⟨q.1, by rw [q.2]; rfl⟩)]
    rfl
theorem sy_s3 {t : Nat → Nat} {key : Nat} {x : Nat × Nat × Nat} (h : x.2.2 = 3) : (sy t key x).2.1 = (if t x.1 = 33 then 2 else if t x.1 = 40 then 3 else if t x.1 = 41 then 4 else if opL (t x.1) < 9 then 1 else 5) ∧ (sy t key x).2.2 = t x.1 := by
  unfold sy
  dsimp only
  rw [if_pos h, if_pos h]
  exact ⟨rfl, rfl⟩
theorem sy_n3 {t : Nat → Nat} {key : Nat} {x : Nat × Nat × Nat} (h : x.2.2 ≠ 3) : (sy t key x).2.1 = 0 ∨ (sy t key x).2.1 = 5 := by
  unfold sy
  dsimp only
  rw [if_neg h]
  repeat' split
  all_goals first | exact Or.inl rfl | exact Or.inr rfl
theorem sy_op {t : Nat → Nat} {key : Nat} {x : Nat × Nat × Nat} : (sy t key x).2.1 = 1 ↔ x.2.2 = 3 ∧ opL (t x.1) < 9 := by
  by_cases c : x.2.2 = 3
  · rw [(sy_s3 c).1]
    constructor
    · intro u
      refine ⟨c, ?_⟩
      by_cases q : opL (t x.1) < 9
      · exact q
      · exfalso
        repeat' split at u
        all_goals omega
    · intro u
      rcases opL_in u.2 with e | e | e | e | e | e | e | e | e <;> rw [e] <;> decide
  · rcases sy_n3 (t := t) (key := key) c with e | e <;> rw [e] <;> exact ⟨fun u => by omega, fun u => absurd u.1 c⟩
theorem sy_k {t : Nat → Nat} {key c kd : Nat} {x : Nat × Nat × Nat} (hc : (c = 33 ∧ kd = 2) ∨ (c = 40 ∧ kd = 3) ∨ (c = 41 ∧ kd = 4)) : (sy t key x).2.1 = kd ↔ x.2.2 = 3 ∧ t x.1 = c := by
  by_cases h : x.2.2 = 3
  · rw [(sy_s3 h).1]
    constructor
    · intro u
      refine ⟨h, ?_⟩
      repeat' split at u
      all_goals omega
    · intro u
      rw [u.2]
      rcases hc with ⟨e1, e2⟩ | ⟨e1, e2⟩ | ⟨e1, e2⟩ <;> subst e1 <;> subst e2 <;> decide
  · rcases sy_n3 (t := t) (key := key) h with e | e <;> rw [e] <;> exact ⟨fun u => by omega, fun u => absurd u.1 h⟩
theorem gCd_leaf {t : Nat → Nat} {key k : Nat} {x : Nat × Nat × Nat} (tok : TOK t k x.1 x.2.1 x.2.2) (h : (sy t key x).2.1 = 0) : (sy t key x).2.2 ≤ 10002 ∧ gCd key (nI (sy t key x).2.2) := by
  rcases sy_leaf tok h with ⟨_, _, _, e4⟩ | ⟨_, e2, e3⟩
  · refine ⟨by omega, nI_pos' (by omega), fun _ => ?_⟩
    rw [trS_low (by omega)]
    exact nI_le (b := 10001) (by omega) (by decide)
  · have := nmX_in e2.2
    refine ⟨by omega, nI_pos' (by omega), fun u => ?_⟩
    rw [trS_low (by omega)]
    exact nI_le (b := 10001) (by omega) (by decide)
theorem wfL_leaf {a d : Nat} (h : a ≤ 10002) : wfL [nI a] d = some (d + 1) := by
  rw [wfL, wfS, if_pos (nI_pos' (by omega)), if_pos (show nI a ≤ 10002 from nI_le (b := 10002) h (by decide))]
  rfl
theorem wfL_not {d : Nat} : wfL [-10] (d + 1) = some (d + 1) := by
  rw [wfL, wfS, if_neg (by decide), if_pos rfl, if_pos (by omega)]
  rfl
theorem wfL_sg {b d : Nat} (h : opL b < 9) : wfL [sg b] (d + 2) = some (d + 1) := by
  have s := sg_ok h
  rw [wfL, wfS, if_neg (Int32.not_le.mpr s.2.2.2.1), if_neg s.2.2.1, if_pos s.2.2.2.2, if_pos (by omega)]
  rfl
theorem gCd_sg {b key : Nat} (h : opL b < 9) : gCd key (nI (20000 + b)) := by
  refine ⟨nI_pos' (by rcases opL_in h with e | e | e | e | e | e | e | e | e <;> omega), fun _ => ?_⟩
  rcases opL_in h with e | e | e | e | e | e | e | e | e <;> subst e <;> decide
-- 83.psim2.lean.txt
/-! text: a PIECE -/
theorem CCx.f8 {t : Nat → Nat} {k key : Nat} {S : HC} {ts : List (Nat × Nat × Nat)} {cc : List Int32} {lv p nn p' : Nat} (h : CCx t k key S ts cc lv p nn) : CCx t k key (sI S 37 8 (nI p')) ts cc lv p' nn := by
  obtain ⟨⟨ct, ht, hs⟩, ⟨b1, b2⟩, ⟨c1, c2⟩, d1, d2, d3⟩ := h
  exact ⟨⟨ct.ag (fun i u => hI_ne (by omega)), ht.ag (fun r i u => hI_row (by omega)), hs.sI _ _ _⟩, ⟨by rw [hI_ne (by decide)]; exact b1, by rw [hI_ne (by decide)]; exact b2⟩, ⟨by rw [hI_ne (by decide)]; exact c1, fun i hi => by rw [hI_row (by decide)]; exact c2 i hi⟩, by rw [hI_ne (by decide)]; exact d1, hI_self _ _ _ _, by rw [hI_ne (by decide)]; exact d3⟩
theorem CCx.f9 {t : Nat → Nat} {k key : Nat} {S : HC} {ts : List (Nat × Nat × Nat)} {cc : List Int32} {lv p nn n' : Nat} (h : CCx t k key S ts cc lv p nn) : CCx t k key (sI S 37 9 (nI n')) ts cc lv p n' := by
  obtain ⟨⟨ct, ht, hs⟩, ⟨b1, b2⟩, ⟨c1, c2⟩, d1, d2, d3⟩ := h
  exact ⟨⟨ct.ag (fun i u => hI_ne (by omega)), ht.ag (fun r i u => hI_row (by omega)), hs.sI _ _ _⟩, ⟨by rw [hI_ne (by decide)]; exact b1, by rw [hI_ne (by decide)]; exact b2⟩, ⟨by rw [hI_ne (by decide)]; exact c1, fun i hi => by rw [hI_row (by decide)]; exact c2 i hi⟩, by rw [hI_ne (by decide)]; exact d1, by rw [hI_ne (by decide)]; exact d2, hI_self _ _ _ _⟩
theorem hdp_le {t : Nat → Nat} {k key : Nat} {S : HC} {ts : List (Nat × Nat × Nat)} {cc : List Int32} {lv p nn : Nat} (h : CCx t k key S ts cc lv p nn) : hdp k ts ≤ 96 := by
  have h1 := h.1.1.hd.2
  have h2 := h.1.2.1.1
  omega
theorem CP_step {ln : Nat → Nat} {t : Nat → Nat} {k key d : Nat} (hl : LN ln) (hk3 : key < 3) (ihL : CL ln t k key d) (ihP : CP ln t k key d) : CP ln t k key (d + 1) := by
  intro S ts cc lv p nn post hd hp8 hn8 hc h96 ok bad
  show bdX2_readPiece ln (wpRec ln d).1 (wpRec ln d).2 S 37 post
  unfold bdX2_readPiece
  rw [lt_e, hc.2.1.1, if_pos (by decide)]
  -- a NUMBER, a NAME, or nothing
  have leaf : (∀ x r, ts = x :: r → (sy t key x).2.1 = 2 → nn = 8) → (∀ x r, ts = x :: r → (sy t key x).2.1 = 3 → p = 8) → BX2_readPiece_118 ln (wpRec ln d).1 (wpRec ln d).2 post S 37 := fun q2 q3 => by
    unfold BX2_readPiece_118
    by_cases c96 : cc.length < 96
    · refine c_leaf hl hk3 hc c96 (fun S' x r e u h' f' => ?_) (fun S' u f' g' s' => ?_)
      · subst e
        have tok := hc.1.1.2.1
        obtain ⟨le, gc⟩ := gCd_leaf tok u
        refine ok S' r [nI (sy t key x).2.2] (lv + 1) h' f' ⟨fun v hv => by rw [List.mem_singleton] at hv; rw [hv]; exact gc, fun d => ?_, by simp; omega⟩ (fun j W B b ht hn hB => ?_)
        · rw [List.map_cons, List.map_nil, trS_low (by omega)]; exact wfL_leaf le
        · rw [List.map_cons, run, if_pos rfl, if_neg (by omega), if_neg (by omega), if_pos u, stl_nots ht, List.map_append, List.map_cons, List.map_nil, trS_low (by omega)]
      · refine bad S' (hdp k ts) f' g' (hdp_le hc) s' (fun j W B b ht hn hB => ?_)
        cases ts with
        | nil => rw [List.map_nil, run_nil, if_pos rfl]; rfl
        | cons x r =>
          rw [List.map_cons, run, if_pos rfl, if_neg (fun v => by have := q2 x r rfl v.1; omega), if_neg (fun v => by have := q3 x r rfl v.1; rw [List.length_cons, hB] at v; omega), if_neg (u x r rfl)]
          rfl
    · have e : ts = [] := by
        cases ts with
        | nil => rfl
        | cons x r => simp at h96; omega
      subst e
      unfold wpX2_readLeaf
      rw [lt_e, hc.1.1.1, if_neg (by decide)]
      refine c_name0 hc ?_
      unfold BX2_readLeaf_19
      rw [if_neg (by decide)]
      refine c_fail hc (fun S' f' g' s' => bad S' (hdp k []) f' g' (hdp_le hc) s' (fun j W B b ht hn hB => ?_))
      rw [List.map_nil, run_nil, if_pos rfl]; rfl
  cases ts with
  | nil =>
    rw [show (33 : Int32) = nI 33 from rfl, c_sign0 hc, if_pos rfl]
    unfold BX2_readPiece_64
    rw [c_sign0 hc, if_pos rfl]
    exact leaf (fun x r e => by cases e) (fun x r e => by cases e)
  | cons x r =>
    have tok := hc.1.1.2.1
    have hlen : cc.length + r.length + 1 ≤ 96 := by rw [List.length_cons] at h96; omega
    rw [show (33 : Int32) = nI 33 from rfl, c_sign hl hc (by decide)]
    by_cases c1 : x.2.2 = 3 ∧ t x.1 = 33
    · have k2 : (sy t key x).2.1 = 2 := (sy_k (Or.inl ⟨rfl, rfl⟩)).mpr c1
      rw [bI_t c1, if_neg (by decide), lt_e, hc.2.2.2.2.2]
      by_cases c8 : nn = 8
      · rw [if_pos (show (8 : Int32) ≤ nI nn from nI_le (a := 8) (by omega) (by omega))]
        unfold BX2_readPiece_64
        rw [show (40 : Int32) = nI 40 from rfl, c_sign hl hc (by decide), bI_f (by omega), if_pos rfl]
        exact leaf (fun y r' e u => c8) (fun y r' e u => by cases e; omega)
      · rw [if_neg (show ¬ (8 : Int32) ≤ nI nn from nI_ge (b := 8) (by omega) (by decide)), lt_e, lt_e, nI_1, lt_e]
        refine c_adv hl (hc.f9 (n' := nn + 1)) (by omega) (fun S1 h1 f1 => ?_)
        have step : ∀ j W B b, run k ((x :: r).map (sy t key)) (cc.map trS) lv (List.replicate j (-10) ++ W) (b :: B) nn true = run k (r.map (sy t key)) (cc.map trS) lv (List.replicate (j + 1) (-10) ++ W) (b :: B) (cN (List.replicate (j + 1) (-10) ++ W)) true := fun j W B b => by
          rw [List.map_cons, run, if_pos rfl, if_pos ⟨k2, by omega⟩]
          rfl
        refine ihP S1 r cc lv p (nn + 1) _ (by omega) hp8 (by omega) h1 (by omega) (fun S2 ts2 g lv2 h2 f2 g2 sim => ?_) (fun S2 f f2 e2 f96 s2 sim => ?_)
        · rw [lt_e, h2.2.2.2.2.2, lt_e, show nI (nn + 1) - 1 = nI nn from pk_sub (a := nn + 1) (b := 1) (by omega), lt_e]
          have glen := g2.2.2
          refine c_write hl (h2.f9 (n' := nn)) (by rw [List.length_append]; omega) (fun S3 h3 f3 => ?_)
          refine ok S3 ts2 (g ++ [20033]) lv2 (by rw [← List.append_assoc]; exact h3) ((((FR.s37 (i := 9)).tr f1).tr f2).tr ((FR.s37 (i := 9)).tr f3)) ⟨fun v hv => ?_, fun d => ?_, by rw [List.length_append]; simp; omega⟩ (fun j W B b ht hn hB => ?_)
          · rcases List.mem_append.mp hv with q | q
            · exact g2.1 v q
            · rw [List.mem_singleton] at q; rw [q]; exact ⟨by decide, fun _ => by decide⟩
          · rw [List.map_append, wfL_app _ _ d (d + 1) (g2.2.1 d)]
            exact wfL_not
          · have cn : cN (List.replicate (j + 1) (-10) ++ W) = nn + 1 := by
              rw [List.replicate_succ, List.cons_append, cN, if_pos rfl, hn]; omega
            rw [step, cn, sim (j + 1) W B b ht cn hB]
            congr 1
            have e33 : [(20033 : Int32)].map trS = [-10] := by decide
            rw [← List.append_assoc cc g [20033], List.map_append (l₁ := cc ++ g), e33, List.append_assoc]
            rfl
        · rw [lt_e, lt_e, lt_e]
          refine x_write (s2.sI _ _ _) hl (fun S3 f3 e3 s3 => bad S3 f ((((FR.s37 (i := 9)).tr f1).tr f2).tr ((FR.s37 (i := 9)).tr f3)) (by rw [e3, hI_ne (by decide)]; exact e2) f96 s3 (fun j W B b ht hn hB => ?_))
          have cn : cN (List.replicate (j + 1) (-10) ++ W) = nn + 1 := by
            rw [List.replicate_succ, List.cons_append, cN, if_pos rfl, hn]; omega
          rw [step, cn]
          exact sim (j + 1) W B b ht cn hB
    · rw [bI_f c1, if_pos rfl]
      have nk2 : (sy t key x).2.1 ≠ 2 := fun u => c1 ((sy_k (Or.inl ⟨rfl, rfl⟩)).mp u)
      unfold BX2_readPiece_64
      rw [show (40 : Int32) = nI 40 from rfl, c_sign hl hc (by decide)]
      by_cases c2 : x.2.2 = 3 ∧ t x.1 = 40
      · have k3 : (sy t key x).2.1 = 3 := (sy_k (Or.inr (Or.inl ⟨rfl, rfl⟩))).mpr c2
        rw [bI_t c2, if_neg (by decide), lt_e, hc.2.2.2.2.1]
        by_cases c8 : p = 8
        · rw [if_pos (show (8 : Int32) ≤ nI p from nI_le (a := 8) (by omega) (by omega))]
          exact leaf (fun y r' e u => by cases e; exact absurd u nk2) (fun y r' e u => c8)
        · rw [if_neg (show ¬ (8 : Int32) ≤ nI p from nI_ge (b := 8) (by omega) (by decide)), lt_e, lt_e, nI_1, lt_e]
          refine c_adv hl (hc.f8 (p' := p + 1)) (by omega) (fun S1 h1 f1 => ?_)
          have step : ∀ W B b, B.length = p → run k ((x :: r).map (sy t key)) (cc.map trS) lv W (b :: B) nn true = run k (r.map (sy t key)) (cc.map trS) lv (-11 :: W) (false :: b :: B) (cN W) true := fun W B b hB => by
            rw [List.map_cons, run, if_pos rfl, if_neg (fun u => nk2 u.1), if_pos ⟨k3, by rw [List.length_cons, hB]; omega⟩]
            congr 1
            rw [cN, if_neg (by decide)]; omega
          refine ihL S1 r cc lv (p + 1) nn 0 _ (by omega) (by omega) (by omega) hn8 h1 (by omega) (fun S2 ts2 g lv2 h2 f2 g2 sim => ?_) (fun S2 f f2 e2 f96 s2 sim => ?_)
          · rw [lt_e, h2.2.2.2.2.1, lt_e, show nI (p + 1) - 1 = nI p from pk_sub (a := p + 1) (b := 1) (by omega), lt_e]
            have h3 := h2.f8 (p' := p)
            have f3 : FR S (sI S2 37 8 (nI p)) := (((FR.s37 (i := 8)).tr f1).tr f2).tr FR.s37
            unfold wpX2_readClosing BX2_readClosing_23
            rw [lt_e, h3.2.1.1, if_neg (by decide)]
            have fl : (∀ y r', ts2 = y :: r' → (sy t key y).2.1 ≠ 4) → ∀ S4, FR (sI S2 37 8 (nI p)) S4 → hI S4 37 10 = nI (hdp k ts2) → SH S4 → post S4 := fun u S4 f4 e4 s4 => by
              refine bad S4 (hdp k ts2) (f3.tr f4) e4 (hdp_le h3) s4 (fun j W B b ht hn hB => ?_)
              rw [step _ B b hB]
              obtain ⟨P, rc, b', e1, e5, e6, e7, e8⟩ := sim (-11 :: (List.replicate j (-10) ++ W)) (b :: B) false ⟨Or.inr ⟨_, _, rfl, Or.inl rfl⟩, fun _ => rfl⟩ (by rw [cN, if_neg (by decide), hn]; omega) (by rw [List.length_cons, hB])
              rw [hn, e1]
              exact run_stop e8 (fun _ q => by cases q) (fun y r' q v => absurd v (u y r' q))
            cases ts2 with
            | nil =>
              rw [c_sign0 h3, if_pos rfl]
              exact c_fail h3 (fun S4 f4 e4 s4 => fl (fun y r' e => by cases e) S4 f4 e4 s4)
            | cons y r2 =>
              rw [show (41 : Int32) = nI 41 from rfl, c_sign hl h3 (by decide)]
              by_cases c4 : y.2.2 = 3 ∧ t y.1 = 41
              · have k4 : (sy t key y).2.1 = 4 := (sy_k (Or.inr (Or.inr ⟨rfl, rfl⟩))).mpr c4
                rw [bI_t c4, if_neg (by decide)]
                refine c_adv hl h3 (by omega) (fun S4 h4 f4 => ?_)
                have glen := g2.2.2
                rw [List.length_cons] at glen
                refine ok S4 r2 g lv2 h4 (f3.tr f4) ⟨g2.1, g2.2.1, by rw [List.length_cons]; omega⟩ (fun j W B b ht hn hB => ?_)
                rw [step _ B b hB]
                obtain ⟨P, rc, b', e1, e5, e6, e7, e8⟩ := sim (-11 :: (List.replicate j (-10) ++ W)) (b :: B) false ⟨Or.inr ⟨_, _, rfl, Or.inl rfl⟩, fun _ => rfl⟩ (by rw [cN, if_neg (by decide), hn]; omega) (by rw [List.length_cons, hB])
                rw [hn, e1, List.map_cons, run, if_neg (by decide), if_pos ⟨k4, by simp⟩]
                have s0 : stl 0 (P ++ -11 :: (List.replicate j (-10) ++ W)) rc = (-11 :: (List.replicate j (-10) ++ W), rc ++ P) := by
                  rw [stl_pop P _ rc (fun z hz => ⟨Nat.zero_le _, (e6 z hz).2.1⟩)]
                  exact stl_stop (Or.inr ⟨_, _, rfl, Or.inl rfl⟩)
                rw [s0]
                dsimp only [List.tail_cons]
                rw [stl_nots ht, e5]
              · rw [bI_f c4, if_pos rfl]
                have nk4 : (sy t key y).2.1 ≠ 4 := fun u => c4 ((sy_k (Or.inr (Or.inr ⟨rfl, rfl⟩))).mp u)
                exact c_fail h3 (fun S4 f4 e4 s4 => fl (fun z r' e => by cases e; exact nk4) S4 f4 e4 s4)
          · rw [lt_e, lt_e, lt_e]
            have e3 : hI (sI S2 37 8 (hI S2 37 8 - 1)) 37 10 = nI f := by rw [hI_ne (by decide)]; exact e2
            unfold wpX2_readClosing BX2_readClosing_23
            rw [lt_e, e3, if_pos (nI_pos' (by omega))]
            refine x_fail e3 f96 (bad _ f ((((FR.s37 (i := 8)).tr f1).tr f2).tr FR.s37) e3 f96 (s2.sI _ _ _) (fun j W B b ht hn hB => ?_))
            rw [step _ B b hB, hn]
            exact sim (-11 :: (List.replicate j (-10) ++ W)) (b :: B) false ⟨Or.inr ⟨_, _, rfl, Or.inl rfl⟩, fun _ => rfl⟩ (by rw [cN, if_neg (by decide), hn]; omega) (by rw [List.length_cons, hB])
      · rw [bI_f c2, if_pos rfl]
        have nk3 : (sy t key x).2.1 ≠ 3 := fun u => c2 ((sy_k (Or.inr (Or.inl ⟨rfl, rfl⟩))).mp u)
        exact leaf (fun y r' e u => by cases e; exact absurd u nk2) (fun y r' e u => by cases e; exact absurd u nk3)
-- 84.psim3.lean.txt
/-! text: the levels -/
theorem m1_ne' {j : Nat} (h : j < 2 ^ 31) : ¬ (-1 : Int32) = nI j := fun u => m1_ne h u.symm
theorem x_loop {ln : Nat → Nat} {RL : HC → Nat → Int32 → (HC → Prop) → Prop} {RP : HC → Nat → (HC → Prop) → Prop} {post : HC → Prop} {S : HC} {x1 x2 x3 : Int32} {f m : Nat} (h : hI S 37 10 = nI f) (hf : f ≤ 96) (hp : post S) : LX2_readLevel_31 ln RL RP post (m + 1) S 37 x1 x2 x3 := by
  rw [LX2_readLevel_31]
  dsimp only
  rw [lt_e, h, if_pos (nI_pos' (by omega))]
  split
  · exact hp
  · exact hp
theorem RC.app {P : List Int32} {level b : Nat} (h : RC P (level + 1)) (hb : opL b = level) (h9 : level < 9) : RC (P ++ [sg b]) level := by
  intro x hx
  rcases List.mem_append.mp hx with q | q
  · have := h x q
    exact ⟨by omega, this.2⟩
  · rw [List.mem_singleton] at q
    have s := sg_ok (b := b) (by omega)
    rw [q]
    exact ⟨by omega, s.2.1, s.2.2.1⟩
theorem CL_step {ln : Nat → Nat} {t : Nat → Nat} {k key d : Nat} (hl : LN ln) (ihL : CL ln t k key d) (ihP : CP ln t k key d) : CL ln t k key (d + 1) := by
  intro S ts cc lv p nn level post hlv hd hp8 hn8 hc h96 ok bad
  show bdX2_readLevel ln (wpRec ln d).1 (wpRec ln d).2 S 37 (nI level) post
  unfold bdX2_readLevel
  by_cases c5 : level < 5
  · rw [if_pos (show nI level < 5 from nI_lt (b := 5) c5 (by decide)), lt_e, nI_1]
    -- the loop at this level
    have loop : ∀ (most : Nat), (most = if level = 2 then 1 else 96) → ∀ (m i : Nat) (S1 : HC) (ts1 : List (Nat × Nat × Nat)) (g1 : List Int32) (lv1 : Nat), ts1.length < m → i + ts1.length ≤ 96 → CCx t k key S1 ts1 (cc ++ g1) lv1 p nn → FR S S1 → GR key ts g1 ts1 → (∀ W B b, ENT level W b → cN W = nn → B.length = p → ∃ P rc b', run k (ts.map (sy t key)) (cc.map trS) lv W (b :: B) nn true = run k (ts1.map (sy t key)) rc lv1 (P ++ W) (b' :: B) nn false ∧ rc ++ P = (cc ++ g1).map trS ∧ RC P level ∧ (3 ≤ level → b' = b) ∧ XC t key (level + 1) b' ts1 ∧ (level = 2 → (i = 0 → b' = false) ∧ (0 < i → b' = true))) → LX2_readLevel_31 ln (wpRec ln d).1 (wpRec ln d).2 post m S1 37 (nI level) (nI most) (nI i) := by
      intro most hmost m
      have hm96 : most ≤ 96 := by rw [hmost]; split <;> omega
      induction m with
      | zero => intro i S1 ts1 g1 lv1 hm; omega
      | succ m ih =>
        intro i S1 ts1 g1 lv1 hm hi hc1 f1 g1ok sim
        rw [LX2_readLevel_31]
        dsimp only
        have stop : (∀ b', XC t key (level + 1) b' ts1 → (level = 2 → (i = 0 → b' = false) ∧ (0 < i → b' = true)) → XC t key level b' ts1) → post S1 := fun u => by
          refine ok S1 ts1 g1 lv1 hc1 f1 g1ok (fun W B b h1 h2 h3 => ?_)
          obtain ⟨P, rc, b', e1, e2, e3, e4, e5, e6⟩ := sim W B b h1 h2 h3
          exact ⟨P, rc, b', e1, e2, e3, e4, u b' e5 e6⟩
        by_cases ci : most ≤ i
        · rw [if_pos (nI_le ci (by omega))]
          refine stop (fun b' q1 q2 => ?_)
          cases ts1 with
          | nil => exact trivial
          | cons x r =>
            by_cases c2 : level = 2
            · rw [if_pos c2] at hmost
              have bt := (q2 c2).2 (by omega)
              intro u
              rcases q1 u with v | v
              · by_cases w : opL (sy t key x).2.2 = 2
                · exact Or.inr ⟨w, bt⟩
                · exact Or.inl (by omega)
              · exact Or.inr v
            · rw [if_neg c2] at hmost
              rw [List.length_cons] at hi
              omega
        rw [if_neg (nI_ge (by omega) (by omega)), lt_e, hc1.2.1.1, if_neg (by decide), c_level hl hc1]
        cases ts1 with
        | nil =>
          rw [lvl, if_neg (m1_ne' (by omega))]
          exact stop (fun b' _ _ => trivial)
        | cons x r =>
          have tok := hc1.1.1.2.1
          rw [lvl]
          by_cases cx : x.2.2 = 3 ∧ opL (t x.1) < 9
          · rw [if_pos cx]
            have k1 : (sy t key x).2.1 = 1 := sy_op.mpr cx
            have v1 : (sy t key x).2.2 = t x.1 := (sy_s3 cx.1).2
            by_cases ce : opL (t x.1) = level
            · rw [if_pos (by rw [ce])]
              have ht := hc1.1.2.1
              have hs1 := hc1.1.2.2
              have hq : x.1 < k := by have := tok.1; omega
              have k96 := ht.1
              rw [sh37_0 hs1, dn_e, lt_e, hc1.1.1.1.2.1, p_at hs1 hl ht (by omega), if_pos hq]
              refine c_adv hl hc1 (by omega) (fun S2 h2 f2 => ?_)
              rw [lt_e, nI_1]
              have glen := g1ok.2.2
              rw [List.length_cons] at glen hm hi
              -- the reference takes the sign
              have step : ∀ W B b, ENT level W b → cN W = nn → B.length = p → ∃ nb, run k (ts.map (sy t key)) (cc.map trS) lv W (b :: B) nn true = run k (r.map (sy t key)) ((cc ++ g1).map trS) lv1 (sg (t x.1) :: W) (nb :: B) nn true ∧ ENT (level + 1) (sg (t x.1) :: W) nb ∧ cN (sg (t x.1) :: W) = nn ∧ (3 ≤ level → nb = b) ∧ (level = 2 → nb = true) := fun W B b h1 h2' h3 => by
                obtain ⟨P, rc, b', e1, e2, e3, e4, e5, e6⟩ := sim W B b h1 h2' h3
                have s := sg_ok cx.2
                have nb2 : ¬ (opL (sy t key x).2.2 = 2 ∧ (b' :: B).headD false = true) := fun u => by
                  rw [v1, ce] at u
                  rw [if_pos u.1] at hmost
                  have := (e6 u.1).1 (by omega)
                  have u2 : b' = true := u.2
                  rw [this] at u2
                  cases u2
                refine ⟨decide (level = 2) || (decide (2 < level) && b'), ?_, ⟨Or.inr ⟨_, _, rfl, Or.inr (by omega)⟩, fun u => ?_⟩, by rw [cN, if_neg s.2.2.1, h2']; omega, fun u => ?_, fun u => by rw [decide_eq_true u]; rfl⟩
                · rw [e1, List.map_cons, run, if_neg (by decide), if_neg (fun u => by omega), if_pos ⟨k1, nb2⟩, v1, ce]
                  have st : stl (level + 1) (P ++ W) rc = (W, rc ++ P) := by
                    rw [stl_pop P W rc (fun z hz => ⟨(e3 z hz).1, (e3 z hz).2.1⟩)]
                    refine stl_stop ?_
                    rcases h1.1 with q | ⟨y, V, q1, q2⟩
                    · exact Or.inl q
                    · exact Or.inr ⟨y, V, q1, q2.elim Or.inl (fun q => Or.inr (by omega))⟩
                  rw [st, e2]
                  rfl
                · rw [decide_eq_false (show ¬ level = 2 by omega), decide_eq_false (show ¬ 2 < level by omega)]
                  rfl
                · rw [decide_eq_false (show ¬ level = 2 by omega), decide_eq_true (show 2 < level by omega), Bool.false_or, Bool.true_and]
                  exact e4 u
              refine ihL S2 r (cc ++ g1) lv1 p nn (level + 1) _ (by omega) (by omega) hp8 hn8 h2 (by rw [List.length_append]; omega) (fun S3 ts3 g3 lv3 h3 f3 g3ok sim3 => ?_) (fun S3 f f3 e3 f96 s3 sim3 => ?_)
              · rw [lt_e, show (20000 : Int32) + nI (t x.1) = nI (20000 + t x.1) from nI_add 20000 _]
                have g3len := g3ok.2.2
                refine c_write hl h3 (by rw [List.length_append, List.length_append]; omega) (fun S4 h4 f4 => ?_)
                rw [lt_e, nI_1]
                have ea : cc ++ g1 ++ g3 ++ [nI (20000 + t x.1)] = cc ++ (g1 ++ g3 ++ [nI (20000 + t x.1)]) := by simp [List.append_assoc]
                rw [ea] at h4
                refine ih (i + 1) S4 ts3 (g1 ++ g3 ++ [nI (20000 + t x.1)]) lv3 (by omega) (by omega) h4 (((f1.tr f2).tr f3).tr f4) ⟨fun v hv => ?_, fun d => ?_, ?_⟩ (fun W B b h1 h2' h3' => ?_)
                · rcases List.mem_append.mp hv with q | q
                  · rcases List.mem_append.mp q with q | q
                    · exact g1ok.1 v q
                    · exact g3ok.1 v q
                  · rw [List.mem_singleton] at q; rw [q]; exact gCd_sg cx.2
                · rw [List.map_append, List.map_append, List.append_assoc, wfL_app _ _ d (d + 1) (g1ok.2.1 d), wfL_app _ _ (d + 1) (d + 2) (g3ok.2.1 (d + 1))]
                  exact wfL_sg cx.2
                · rw [List.length_append, List.length_append, List.length_singleton]; omega
                · obtain ⟨nb, e1, e2, e3, e4, e5⟩ := step W B b h1 h2' h3'
                  obtain ⟨P3, rc3, b3, q1, q2, q3, q4, q5⟩ := sim3 (sg (t x.1) :: W) B nb e2 e3 h3'
                  refine ⟨P3 ++ [sg (t x.1)], rc3, b3, ?_, ?_, RC.app q3 ce (by omega), fun u => by rw [q4 (by omega), e4 u], q5, fun u => ⟨fun v => by omega, fun _ => by rw [q4 (by omega), e5 u]⟩⟩
                  · rw [e1, q1, List.append_assoc]
                    rfl
                  · rw [← List.append_assoc, q2, ← ea]
                    simp [sg, List.map_append]
              · rw [lt_e]
                refine x_write s3 hl (fun S4 f4 e4 s4 => ?_)
                rw [lt_e]
                have e5 : hI S4 37 10 = nI f := e4.trans e3
                obtain ⟨m', em⟩ : ∃ m', m = m' + 1 := ⟨m - 1, by omega⟩
                rw [em]
                refine x_loop e5 f96 (bad S4 f (((f1.tr f2).tr f3).tr f4) e5 f96 s4 (fun W B b h1 h2' h3' => ?_))
                obtain ⟨nb, e1, e2, e3', -, -⟩ := step W B b h1 h2' h3'
                rw [e1]
                exact sim3 (sg (t x.1) :: W) B nb e2 e3' h3'
            · rw [if_neg (fun u => ce ((nI_eq (by omega) (by omega)).mp u))]
              refine stop (fun b' q1 _ u => ?_)
              rcases q1 u with v | v
              · rw [v1] at v ⊢
                exact Or.inl (by omega)
              · exact Or.inr v
          · rw [if_neg cx, if_neg (m1_ne' (by omega))]
            exact stop (fun b' q1 _ u => absurd (sy_op.mp u) cx)
    have first : ∀ (most : Nat), (most = if level = 2 then 1 else 96) → ∀ S1 ts1 g1 lv1, CCx t k key S1 ts1 (cc ++ g1) lv1 p nn → FR S S1 → GR key ts g1 ts1 → SIML t k key (level + 1) ts cc lv p nn ts1 (cc ++ g1) lv1 → BX2_readLevel_28 ln (wpRec ln d).1 (wpRec ln d).2 post S1 37 (nI level) (nI most) := fun most hmost S1 ts1 g1 lv1 h1 f1 g1ok sim => by
      unfold BX2_readLevel_28
      have glen := g1ok.2.2
      refine ⟨ts1.length + 1, loop most hmost (ts1.length + 1) 0 S1 ts1 g1 lv1 (by omega) (by omega) h1 f1 g1ok (fun W B b q1 q2 q3 => ?_)⟩
      obtain ⟨P, rc, b', e1, e2, e3, e4, e5⟩ := sim W B b ⟨by
        rcases q1.1 with v | ⟨y, V, v1, v2⟩
        · exact Or.inl v
        · exact Or.inr ⟨y, V, v1, v2.elim Or.inl (fun w => Or.inr (by omega))⟩, fun u => q1.2 (by omega)⟩ q2 q3
      refine ⟨P, rc, b', e1, e2, fun z hz => ⟨by have := (e3 z hz).1; omega, (e3 z hz).2⟩, fun u => e4 (by omega), e5, fun u => ⟨fun _ => by rw [e4 (by omega), q1.2 (by omega)], fun v => by omega⟩⟩
    refine ihL S ts cc lv p nn (level + 1) _ (by omega) (by omega) hp8 hn8 hc h96 (fun S1 ts1 g1 lv1 h1 f1 g1ok sim => ?_) (fun S1 f f1 e1 f96 s1 sim => ?_)
    · by_cases c2 : level = 2
      · rw [if_pos (by rw [c2]; rfl)]
        exact first 1 (by rw [if_pos c2]) S1 ts1 g1 lv1 h1 f1 g1ok sim
      · rw [if_neg (show ¬ nI level = 2 from fun u => c2 ((nI_eq (b := 2) (by omega) (by decide)).mp u))]
        exact first 96 (by rw [if_neg c2]) S1 ts1 g1 lv1 h1 f1 g1ok sim
    · have fin : post S1 := bad S1 f f1 e1 f96 s1 (fun W B b q1 q2 q3 => sim W B b ⟨by
        rcases q1.1 with v | ⟨y, V, v1, v2⟩
        · exact Or.inl v
        · exact Or.inr ⟨y, V, v1, v2.elim Or.inl (fun w => Or.inr (by omega))⟩, fun u => q1.2 (by omega)⟩ q2 q3)
      unfold BX2_readLevel_28
      split
      · exact ⟨1, x_loop e1 f96 fin⟩
      · exact ⟨1, x_loop e1 f96 fin⟩
  · have e5 : level = 5 := by omega
    subst e5
    rw [if_neg (by decide)]
    refine ihP S ts cc lv p nn _ (by omega) hp8 hn8 hc h96 (fun S1 ts1 g1 lv1 h1 f1 g1ok sim => ok S1 ts1 g1 lv1 h1 f1 g1ok (fun W B b q1 q2 q3 => ?_)) (fun S1 f f1 e1 f96 s1 sim => bad S1 f f1 e1 f96 s1 (fun W B b q1 q2 q3 => ?_))
    · have tp : TOPN W := by
        rcases q1.1 with v | ⟨y, V, v1, v2⟩
        · exact Or.inl v
        · exact Or.inr ⟨y, V, v1, v2.elim Or.inl (fun w => Or.inr (by omega))⟩
      have e := sim 0 W B b tp q2 q3
      rw [List.replicate_zero, List.nil_append, List.append_nil, q2] at e
      refine ⟨[], (cc ++ g1).map trS, b, e, List.append_nil _, fun z hz => (by cases hz), fun _ => rfl, ?_⟩
      cases ts1 with
      | nil => exact trivial
      | cons x r =>
        intro u
        have := sy_op.mp u
        rw [(sy_s3 this.1).2]
        refine Or.inl ?_
        rcases opL_in this.2 with e | e | e | e | e | e | e | e | e <;> rw [e] <;> decide
    · have tp : TOPN W := by
        rcases q1.1 with v | ⟨y, V, v1, v2⟩
        · exact Or.inl v
        · exact Or.inr ⟨y, V, v1, v2.elim Or.inl (fun w => Or.inr (by omega))⟩
      exact sim 0 W B b tp q2 q3
theorem CLP {ln : Nat → Nat} {t : Nat → Nat} {k key : Nat} (hl : LN ln) (hk3 : key < 3) : ∀ d, CL ln t k key d ∧ CP ln t k key d := by
  intro d
  induction d with
  | zero => exact ⟨fun S ts cc lv p nn level post h1 h2 => by omega, fun S ts cc lv p nn post h2 => by omega⟩
  | succ d ih => exact ⟨CL_step hl ih.1 ih.2, CP_step hl hk3 ih.1 ih.2⟩
-- 85.pmtext.lean.txt
/-! text: the reference's reading is that function -/
def WS (S : HC) : List Int32 → Prop
  | [] => True
  | x :: V => hI S 78 V.length = x ∧ WS S V
def BS (S : HC) : List Bool → Prop
  | [] => True
  | b :: B => hI S 79 B.length = (if b = true then 1 else 0) ∧ BS S B
theorem WS.ag {S S' : HC} : ∀ {W : List Int32}, WS S W → (∀ i, i < W.length → hI S' 78 i = hI S 78 i) → WS S' W := by
  intro W
  induction W with
  | nil => intro _ _; exact trivial
  | cons x V ih => intro h e; exact ⟨by rw [e _ (by simp)]; exact h.1, ih h.2 (fun i hi => e i (by simp; omega))⟩
theorem BS.ag {S S' : HC} : ∀ {B : List Bool}, BS S B → (∀ i, i < B.length → hI S' 79 i = hI S 79 i) → BS S' B := by
  intro B
  induction B with
  | nil => intro _ _; exact trivial
  | cons b B ih => intro h e; exact ⟨by rw [e _ (by simp)]; exact h.1, ih h.2 (fun i hi => e i (by simp; omega))⟩
def CDx (S : HC) (c : List Int32) (a : Nat) : Prop := hI S 68 17 = nI c.length ∧ (∀ i, i < c.length → hI S 77 i = c.getD i 0) ∧ hI S 68 18 = nI a
def FT (S S' : HC) : Prop := (∀ r i, r ≠ 77 → r ≠ 78 → r ≠ 79 → ¬ (r = 68 ∧ ((8 ≤ i ∧ i ≤ 12) ∨ i = 17 ∨ i = 18 ∨ i = 20)) → hI S' r i = hI S r i) ∧ ∀ r i, hR S' r i = hR S r i
theorem FT.rf (S : HC) : FT S S := ⟨fun _ _ _ _ _ _ => rfl, fun _ _ => rfl⟩
theorem FT.tr {S S' S'' : HC} (h : FT S S') (h2 : FT S' S'') : FT S S'' := ⟨fun r i u1 u2 u3 u4 => (h2.1 r i u1 u2 u3 u4).trans (h.1 r i u1 u2 u3 u4), fun r i => (h2.2 r i).trans (h.2 r i)⟩
theorem FT.sh {S S' : HC} (h : FT S S') (hs : SH S) : SH S' := hs.of (fun _ _ => h.2 _ _)
theorem FT.tp {S S' : HC} {t : Nat → Nat} {k : Nat} (h : FT S S') (ht : TPm S t k) : TPm S' t k := ht.ag (fun r i u => h.1 r i (by omega) (by omega) (by omega) (by omega))
theorem FT.s68 {S : HC} {i : Nat} {v : Int32} (h : (8 ≤ i ∧ i ≤ 12) ∨ i = 17 ∨ i = 18 ∨ i = 20) : FT S (sI S 68 i v) := ⟨fun r j _ _ _ u => hI_ne (by omega), fun _ _ => rfl⟩
theorem FT.arr {S : HC} {r i : Nat} {v : Int32} (h : r = 77 ∨ r = 78 ∨ r = 79) : FT S (sI S r i v) := ⟨fun r' j u1 u2 u3 _ => hI_row (by omega), fun _ _ => rfl⟩
theorem FG.ft {S S' : HC} (h : FG S S') : FT S S' := ⟨fun r i _ _ _ u => h.1 r i (by omega), h.2⟩
theorem RTk.ag {t : Nat → Nat} {k : Nat} {S S' : HC} {ts : List (Nat × Nat × Nat)} (h : RTk t k S ts) (e : ∀ i, 8 ≤ i ∧ i ≤ 12 → hI S' 68 i = hI S 68 i) : RTk t k S' ts := by
  cases ts with
  | nil => exact ⟨by rw [e 10 (by omega)]; exact h.1, by rw [e 9 (by omega)]; exact h.2⟩
  | cons x r =>
    obtain ⟨⟨a1, a2, a3⟩, ⟨b1, b2⟩, ⟨c1, c2⟩, d⟩ := h
    exact ⟨⟨by rw [e 9 (by omega)]; exact a1, by rw [e 8 (by omega)]; exact a2, by rw [e 10 (by omega)]; exact a3⟩, ⟨fun u => by rw [e 11 (by omega)]; exact b1 u, fun u => by rw [e 11 (by omega)]; exact b2 u⟩, ⟨fun u => by rw [e 12 (by omega)]; exact c1 u, fun u => by rw [e 12 (by omega)]; exact c2 u⟩, d⟩
def MMx (t : Nat → Nat) (k key : Nat) (S : HC) (ts : List (Nat × Nat × Nat)) (c : List Int32) (a : Nat) (W : List Int32) (B : List Bool) : Prop := (RTk t k S ts ∧ TPm S t k ∧ SH S ∧ hI S 68 13 = nI key) ∧ CDx S c a ∧ (hI S 68 20 = nI W.length ∧ WS S W) ∧ BS S B
theorem m_go {ln : Nat → Nat} {t : Nat → Nat} {k key : Nat} {S : HC} {x : Nat × Nat × Nat} {ts : List (Nat × Nat × Nat)} {c : List Int32} {a : Nat} {W : List Int32} {B : List Bool} {post : HC → Prop} (hl : LN ln) (h : MMx t k key S (x :: ts) c a W B) (hp : ∀ S', MMx t k key S' ts c a W B → FT S S' → post S') : wpX8_go ln S 68 post := by
  obtain ⟨⟨⟨⟨a1, a2, a3⟩, -, ⟨c1, c2⟩, tok, n, hn, hr⟩, ht, hs, hk⟩, ⟨d1, d2, d3⟩, ⟨w1, w2⟩, hB⟩ := h
  refine p_go (g := decide (x.2.2 ≠ 3)) hs hl ht a2 tok.1.2 (fun u => c1 (of_decide_eq_true u)) (fun u => c2 (Decidable.not_not.mp (of_decide_eq_false u))) hn (fun S' hR' hf => ?_)
  rw [← hr] at hR'
  exact hp S' ⟨⟨hR', hf.tp ht, hf.sh hs, by rw [hf.1 68 13 (by omega)]; exact hk⟩, ⟨by rw [hf.1 68 17 (by omega)]; exact d1, fun i hi => by rw [hf.1 77 i (by omega)]; exact d2 i hi, by rw [hf.1 68 18 (by omega)]; exact d3⟩, ⟨by rw [hf.1 68 20 (by omega)]; exact w1, w2.ag (fun i _ => hf.1 _ _ (by omega))⟩, hB.ag (fun i _ => hf.1 _ _ (by omega))⟩ hf.ft
theorem getD_app {c : List Int32} {v : Int32} {i : Nat} (hi : i < c.length + 1) : (c ++ [v]).getD i 0 = if i = c.length then v else c.getD i 0 := by
  by_cases q : i = c.length
  · rw [if_pos q, q]
    simp [List.getD, List.getElem?_append]
  · rw [if_neg q]
    simp [List.getD, List.getElem?_append, show i < c.length by omega]
/-- one sign that waits comes to the code -/
theorem MMx.pop {t : Nat → Nat} {k key : Nat} {S : HC} {ts : List (Nat × Nat × Nat)} {c : List Int32} {a : Nat} {x : Int32} {V : List Int32} {B : List Bool} (h : MMx t k key S ts c a (x :: V) B) : MMx t k key (sI (sI (sI S 68 20 (nI V.length)) 77 c.length x) 68 17 (nI (c.length + 1))) ts (c ++ [x]) a V B := by
  obtain ⟨⟨r1, ht, hs, hk⟩, ⟨d1, d2, d3⟩, ⟨w1, w2⟩, hB⟩ := h
  refine ⟨⟨r1.ag (fun i u => by rw [hI_ne (by omega), hI_row (by decide), hI_ne (by omega)]), ht.ag (fun r i u => by rw [hI_ne (by omega), hI_row (by omega), hI_ne (by omega)]), ((hs.sI _ _ _).sI _ _ _).sI _ _ _, by rw [hI_ne (by decide), hI_row (by decide), hI_ne (by decide)]; exact hk⟩, ⟨by rw [hI_self, List.length_append]; rfl, fun i hi => ?_, by rw [hI_ne (by decide), hI_row (by decide), hI_ne (by decide)]; exact d3⟩, ⟨by rw [hI_ne (by decide), hI_row (by decide), hI_self], w2.2.ag (fun i _ => by rw [hI_row (by decide), hI_row (by decide), hI_row (by decide)])⟩, hB.ag (fun i _ => by rw [hI_row (by decide), hI_row (by decide), hI_row (by decide)])⟩
  rw [List.length_append] at hi
  have hi2 : i < c.length + 1 := hi
  rw [getD_app hi2, hI_row (by decide)]
  by_cases q : i = c.length
  · rw [if_pos q, q, hI_self]
  · rw [if_neg q, hI_ne (by omega), hI_row (by decide)]
    exact d2 i (by omega)
theorem rk_le (x : Int32) : rk x ≤ 6 := by
  unfold rk
  repeat' split
  all_goals omega
theorem m_settle {ln : Nat → Nat} {t : Nat → Nat} {k key r : Nat} {ts : List (Nat × Nat × Nat)} {a : Nat} {B : List Bool} {post : HC → Prop} (hl : LN ln) (hr : r ≤ 6) : ∀ (W c : List Int32) (S : HC), c.length + W.length ≤ 96 → MMx t k key S ts c a W B → (∀ S', MMx t k key S' ts (stl r W c).2 a (stl r W c).1 B → FT S S' → post S') → wpX8_settle ln S 68 (nI r) post ∧ LX8_settle_0 ln post (W.length + 1) S 68 (nI r) := by
  intro W
  induction W with
  | nil =>
    intro c S h96 h hp
    have q := hp S h (FT.rf S)
    have w1 := h.2.2.1.1
    refine ⟨?_, ?_⟩
    · unfold wpX8_settle
      rw [lt_e, w1, if_pos (by decide)]
      exact q
    · rw [LX8_settle_0]
      dsimp only
      rw [lt_e, w1, if_pos (by decide)]
      exact q
  | cons x V ih =>
    intro c S h96 h hp
    have hs := h.1.2.2.1
    have w1 := h.2.2.1.1
    have wx := h.2.2.1.2.1
    have d1 := h.2.1.1
    rw [List.length_cons] at h96 w1
    have hm : nI (V.length + 1) - 1 = nI V.length := pk_sub (a := V.length + 1) (b := 1) (by omega)
    rw [stl] at hp
    by_cases c1 : x = -11 ∨ rk x < r
    · rw [if_pos c1] at hp
      have q := hp S h (FT.rf S)
      have stop : (al_ (ln 78) (nI V.length) (hI S 78) fun z5 => if z5 = -11 then post S else False) ∨ True := Or.inr trivial
      refine ⟨?_, ?_⟩
      · unfold wpX8_settle
        rw [lt_e, w1, if_neg (nI_nle (by omega) (by omega)), sh68_19 hs, dn_e, lt_e, lt_e, hm, ln78 hl, al_e (by omega) (by decide), wx]
        by_cases c2 : x = -11
        · rw [if_pos c2]; exact q
        · rw [if_neg c2, dn_e, lt_e, lt_e, hm, ln78 hl, al_e (by omega) (by decide), wx, p_rank, if_pos (nI_lt (c1.resolve_left c2) (by omega))]
          exact q
      · rw [LX8_settle_0]
        dsimp only
        rw [lt_e, w1, if_neg (nI_nle (by omega) (by omega)), sh68_19 hs, dn_e, lt_e, lt_e, hm, ln78 hl, al_e (by omega) (by decide), wx]
        by_cases c2 : x = -11
        · rw [if_pos c2]; exact q
        · rw [if_neg c2, dn_e, lt_e, lt_e, hm, ln78 hl, al_e (by omega) (by decide), wx, p_rank, if_pos (nI_lt (c1.resolve_left c2) (by omega))]
          exact q
    · rw [if_neg c1] at hp
      have c2 : ¬ x = -11 := fun u => c1 (Or.inl u)
      have c3 : ¬ rk x < r := fun u => c1 (Or.inr u)
      have rk6 : rk x ≤ 6 := rk_le x
      have nx := ih (c ++ [x]) _ (by rw [List.length_append]; simp; omega) h.pop (fun S' h' f' => hp S' h' ((((FT.s68 (Or.inr (Or.inr (Or.inr rfl)))).tr (FT.arr (Or.inl rfl))).tr (FT.s68 (Or.inr (Or.inl rfl)))).tr f'))
      have e20 : hI (sI S 68 20 (nI V.length)) 68 20 = nI V.length := hI_self _ _ _ _
      have e17 : hI (sI S 68 20 (nI V.length)) 68 17 = nI c.length := by rw [hI_ne (by decide)]; exact d1
      have e78 : hI (sI S 68 20 (nI V.length)) 78 V.length = x := by rw [hI_row (by decide)]; exact wx
      have e17' : hI (sI (sI S 68 20 (nI V.length)) 77 c.length x) 68 17 = nI c.length := by rw [hI_row (by decide)]; exact e17
      have hs1 : SH (sI S 68 20 (nI V.length)) := hs.sI _ _ _
      refine ⟨?_, ?_⟩
      · unfold wpX8_settle
        rw [lt_e, w1, if_neg (nI_nle (by omega) (by omega)), sh68_19 hs, dn_e, lt_e, lt_e, hm, ln78 hl, al_e (by omega) (by decide), wx, if_neg c2, dn_e, lt_e, lt_e, hm, ln78 hl, al_e (by omega) (by decide), wx, p_rank, if_neg (nI_nlt (by omega) (by omega)), lt_e, lt_e, lt_e, w1, hm, sh68_16 hs1, dn_e, lt_e, e17, sh68_19 hs1, dn_e, lt_e, e20, ln78 hl, al_e (by omega) (by decide), e78, ln77 hl, as_e (by omega) (by decide), lt_e, e17', lt_e, nI_1, lt_e]
        exact ⟨_, nx.2⟩
      · rw [LX8_settle_0]
        dsimp only
        rw [lt_e, w1, if_neg (nI_nle (by omega) (by omega)), sh68_19 hs, dn_e, lt_e, lt_e, hm, ln78 hl, al_e (by omega) (by decide), wx, if_neg c2, dn_e, lt_e, lt_e, hm, ln78 hl, al_e (by omega) (by decide), wx, p_rank, if_neg (nI_nlt (by omega) (by omega)), lt_e, lt_e, lt_e, w1, hm, sh68_16 hs1, dn_e, lt_e, e17, sh68_19 hs1, dn_e, lt_e, e20, ln78 hl, al_e (by omega) (by decide), e78, ln77 hl, as_e (by omega) (by decide), lt_e, e17', lt_e, nI_1, lt_e]
        exact nx.2
theorem stl_len {r : Nat} : ∀ (W c : List Int32), (stl r W c).1.length + (stl r W c).2.length = W.length + c.length ∧ (stl r W c).1.length ≤ W.length := by
  intro W
  induction W with
  | nil => intro c; rw [stl]; exact ⟨rfl, Nat.le_refl _⟩
  | cons x V ih =>
    intro c
    rw [stl]
    by_cases q : x = -11 ∨ rk x < r
    · rw [if_pos q]; exact ⟨rfl, Nat.le_refl _⟩
    · rw [if_neg q]
      have := ih (c ++ [x])
      rw [List.length_append] at this
      simp at this ⊢
      omega
theorem cnt_cN {S : HC} : ∀ W : List Int32, WS S W → cnt (hI S 78) (-10) W.length = cN W := by
  intro W
  induction W with
  | nil => intro _; rfl
  | cons x V ih =>
    intro h
    rw [List.length_cons, cnt, cN, ih h.2, h.1]
    omega
theorem m_nots {ln : Nat → Nat} {t : Nat → Nat} {k key : Nat} {S : HC} {ts : List (Nat × Nat × Nat)} {c : List Int32} {a : Nat} {W : List Int32} {B : List Bool} {post : Int32 → HC → Prop} (hl : LN ln) (h : MMx t k key S ts c a W B) (h96 : W.length ≤ 96) (hp : post (nI (cN W)) S) : wpX8_notsOpen ln S 68 post := by
  have hs := h.1.2.2.1
  have w1 := h.2.2.1.1
  rw [← cnt_cN W h.2.2.1.2] at hp
  have kk : ∀ m i, i + m = W.length → LX8_notsOpen_4 ln post (m + 1) S 68 (nI (cnt (hI S 78) (-10) i)) (nI i) := by
    intro m
    induction m with
    | zero =>
      intro i hi
      rw [LX8_notsOpen_4]
      dsimp only
      rw [lt_e, w1, if_pos (nI_le (by omega) (by omega)), show i = W.length by omega]
      exact hp
    | succ m ih =>
      intro i hi
      have k2 := ih (i + 1) (by omega)
      rw [cnt] at k2
      rw [LX8_notsOpen_4]
      dsimp only
      unfold BX8_notsOpen_29
      rw [lt_e, w1, if_neg (nI_ge (by omega) (by omega)), sh68_19 hs, dn_e, ln78 hl, al_e (by omega) (by decide)]
      simp only [lt_e]
      by_cases q : hI S 78 i = -10
      · rw [if_pos q] at k2 ⊢
        rw [nI_1, nI_1]; exact k2
      · rw [if_neg q] at k2 ⊢
        rw [nI_1, show nI (cnt (hI S 78) (-10) i) + 0 = nI (cnt (hI S 78) (-10) i + 0) from nI_add _ 0]; exact k2
  exact ⟨W.length + 1, kk W.length 0 (by omega)⟩
-- 86.pmtext2.lean.txt
/-! text: the reference's reading, on -/
theorem kdT_e {x : Nat × Nat × Nat} (h : 1 ≤ x.2.2 ∧ x.2.2 ≤ 4) : (kdT x = 3 ↔ x.2.2 = 3) ∧ (kdT x = 1 ↔ x.2.2 = 1) ∧ (kdT x = 2 ↔ x.2.2 = 2 ∧ x.2.1 - x.1 ≤ 4) ∧ 1 ≤ kdT x ∧ kdT x ≤ 4 := by
  unfold kdT
  by_cases c : x.2.2 = 2 ∧ 4 < x.2.1 - x.1
  · rw [if_pos c]; omega
  · rw [if_neg c]; omega
theorem m_sign {ln : Nat → Nat} {t : Nat → Nat} {k key : Nat} {S : HC} {x : Nat × Nat × Nat} {ts : List (Nat × Nat × Nat)} {c : List Int32} {a : Nat} {W : List Int32} {B : List Bool} {post : Int32 → HC → Prop} (h : MMx t k key S (x :: ts) c a W B) : wpX8_signHere ln S 68 post = post (if (sy t key x).2.1 = 1 then sg (t x.1) else 0) S := by
  obtain ⟨⟨⟨⟨a1, a2, a3⟩, ⟨b1, b2⟩, -, tok, -⟩, ht, hs, hk⟩, -⟩ := h
  have ke := kdT_e tok.2.1
  have hq : x.1 < k := by have := tok.1; omega
  have b := (ht.2.2 x.1 hq).2
  unfold wpX8_signHere
  rw [lt_e, a3]
  by_cases c3 : x.2.2 = 3
  · rw [if_pos (by rw [ke.1.mpr c3]; rfl), lt_e, b1 (Or.inr c3)]
    by_cases c2 : opL (t x.1) < 9
    · rw [if_pos (sy_op.mpr ⟨c3, c2⟩)]
      rcases opL_in c2 with e | e | e | e | e | e | e | e | e <;> rw [e] <;> rfl
    · rw [if_neg (fun u => c2 (sy_op.mp u).2)]
      obtain ⟨o1, o2, o3, o4, o5, o6, o7, o8, o9⟩ := opL_out c2
      have ne : ∀ n : Nat, n < 256 → t x.1 ≠ n → ¬ nI (t x.1) = nI n := fun n hn u v => u ((nI_eq (by omega) (by omega)).mp v)
      rw [if_neg (show ¬ nI (t x.1) = 38 from ne 38 (by decide) o2), if_neg (show ¬ nI (t x.1) = 42 from ne 42 (by decide) o8), if_neg (show ¬ nI (t x.1) = 43 from ne 43 (by decide) o6), if_neg (show ¬ nI (t x.1) = 45 from ne 45 (by decide) o7), if_neg (show ¬ nI (t x.1) = 47 from ne 47 (by decide) o9), if_neg (show ¬ nI (t x.1) = 60 from ne 60 (by decide) o3), if_neg (show ¬ nI (t x.1) = 61 from ne 61 (by decide) o4), if_neg (show ¬ nI (t x.1) = 62 from ne 62 (by decide) o5), if_neg (show ¬ nI (t x.1) = 124 from ne 124 (by decide) o1)]
  · rw [if_neg (show ¬ nI (kdT x) = 3 from fun u => c3 (ke.1.mp ((nI_eq (b := 3) (by omega) (by decide)).mp u))), if_neg (fun u => c3 (sy_op.mp u).1)]
theorem m_is {t : Nat → Nat} {k key b : Nat} {S : HC} {x : Nat × Nat × Nat} {ts : List (Nat × Nat × Nat)} {c : List Int32} {a : Nat} {W : List Int32} {B : List Bool} {v : Int32} {A C : Prop} (h : MMx t k key S (x :: ts) c a W B) (hv : v = nI b) (hb : b < 256) : (lt_ (hI S 68 10) fun z => if z = 3 then (lt_ (hI S 68 11) fun z2 => if z2 = v then A else C) else C) = if x.2.2 = 3 ∧ t x.1 = b then A else C := by
  subst hv
  obtain ⟨⟨⟨⟨a1, a2, a3⟩, ⟨b1, b2⟩, -, tok, -⟩, ht, hs, hk⟩, -⟩ := h
  have ke := kdT_e tok.2.1
  have hq : x.1 < k := by have := tok.1; omega
  have b256 := (ht.2.2 x.1 hq).2
  rw [lt_e, a3]
  by_cases c3 : x.2.2 = 3
  · rw [if_pos (by rw [ke.1.mpr c3]; rfl), lt_e, b1 (Or.inr c3)]
    by_cases c2 : t x.1 = b
    · rw [if_pos (by rw [c2]), if_pos ⟨c3, c2⟩]
    · rw [if_neg (fun u => c2 ((nI_eq (by omega) (by omega)).mp u)), if_neg (fun u => c2 u.2)]
  · rw [if_neg (show ¬ nI (kdT x) = 3 from fun u => c3 (ke.1.mp ((nI_eq (b := 3) (by omega) (by decide)).mp u))), if_neg (fun u => c3 u.1)]
theorem m_is0 {t : Nat → Nat} {k key : Nat} {S : HC} {c : List Int32} {a : Nat} {W : List Int32} {B : List Bool} {v : Int32} {A C : Prop} (h : MMx t k key S [] c a W B) : (lt_ (hI S 68 10) fun z => if z = 3 then (lt_ (hI S 68 11) fun z2 => if z2 = v then A else C) else C) = C := by
  rw [lt_e, h.1.1.1, if_neg (by decide)]
theorem m_name {ln : Nat → Nat} {S : HC} {key b : Nat} {post : Int32 → HC → Prop} (hk : hI S 68 13 = nI key) (hk3 : key < 3) (hb : b < 256) : wpX8_nameOf ln S 68 (nI b) post = post (if nmX key b < 9 then nI (nmX key b) else -1) S := by
  have ne : ∀ n : Nat, n < 256 → (nI b = nI n ↔ b = n) := fun n hn => nI_eq (by omega) (by omega)
  have e1 : (nI b = 102) ↔ b = 102 := ne 102 (by decide)
  have e2 : (nI b = 109) ↔ b = 109 := ne 109 (by decide)
  have e3 : (nI b = 110) ↔ b = 110 := ne 110 (by decide)
  have e4 : (nI b = 121) ↔ b = 121 := ne 121 (by decide)
  have e5 : (nI b = 112) ↔ b = 112 := ne 112 (by decide)
  have e6 : (nI b = 97) ↔ b = 97 := ne 97 (by decide)
  have e7 : (nI b = 98) ↔ b = 98 := ne 98 (by decide)
  unfold wpX8_nameOf nmX
  rw [lt_e, hk]
  rcases (show key = 0 ∨ key = 1 ∨ key = 2 by omega) with e | e | e <;> subst e
  · rw [if_pos (show nI 0 = 0 from rfl), if_pos rfl]
    simp only [e1, e2, e3]
    by_cases c1 : b = 102
    · simp only [if_pos c1]; rfl
    · simp only [if_neg c1]
      by_cases c2 : b = 109
      · simp only [if_pos c2]; rfl
      · simp only [if_neg c2]
        by_cases c3 : b = 110
        · simp only [if_pos c3]; rfl
        · simp only [if_neg c3]; rfl
  · rw [if_neg (show ¬ nI 1 = 0 by decide), if_pos (show nI 1 = 1 from rfl), if_neg (show ¬ (1 : Nat) = 0 by decide), if_pos (show (1 : Nat) = 1 from rfl)]
    simp only [e4, e5]
    by_cases c1 : b = 121
    · simp only [if_pos c1]; rfl
    · simp only [if_neg c1]
      by_cases c2 : b = 112
      · simp only [if_pos c2]; rfl
      · simp only [if_neg c2]; rfl
  · rw [if_neg (show ¬ nI 2 = 0 by decide), if_neg (show ¬ nI 2 = 1 by decide), if_neg (show ¬ (2 : Nat) = 0 by decide), if_neg (show ¬ (2 : Nat) = 1 by decide)]
    simp only [e6, e7]
    by_cases c1 : b = 97
    · simp only [if_pos c1]; rfl
    · simp only [if_neg c1]
      by_cases c2 : b = 98
      · simp only [if_pos c2]; rfl
      · simp only [if_neg c2]; rfl
theorem MMx.leaf {t : Nat → Nat} {k key : Nat} {S : HC} {ts : List (Nat × Nat × Nat)} {c : List Int32} {a : Nat} {W : List Int32} {B : List Bool} {v : Int32} (h : MMx t k key S ts c a W B) : MMx t k key (sI (sI (sI S 77 c.length v) 68 17 (nI (c.length + 1))) 68 18 (nI (a + 1))) ts (c ++ [v]) (a + 1) W B := by
  obtain ⟨⟨r1, ht, hs, hk⟩, ⟨d1, d2, d3⟩, ⟨w1, w2⟩, hB⟩ := h
  refine ⟨⟨r1.ag (fun i u => by rw [hI_ne (by omega), hI_ne (by omega), hI_row (by decide)]), ht.ag (fun r i u => by rw [hI_ne (by omega), hI_ne (by omega), hI_row (by omega)]), ((hs.sI _ _ _).sI _ _ _).sI _ _ _, by rw [hI_ne (by decide), hI_ne (by decide), hI_row (by decide)]; exact hk⟩, ⟨by rw [hI_ne (by decide), hI_self, List.length_append]; rfl, fun i hi => ?_, hI_self _ _ _ _⟩, ⟨by rw [hI_ne (by decide), hI_ne (by decide), hI_row (by decide)]; exact w1, w2.ag (fun i _ => by rw [hI_row (by decide), hI_row (by decide), hI_row (by decide)])⟩, hB.ag (fun i _ => by rw [hI_row (by decide), hI_row (by decide), hI_row (by decide)])⟩
  rw [List.length_append] at hi
  have hi2 : i < c.length + 1 := hi
  rw [getD_app hi2, hI_row (by decide), hI_row (by decide)]
  by_cases q : i = c.length
  · rw [if_pos q, q, hI_self]
  · rw [if_neg q, hI_ne (by omega)]
    exact d2 i (by omega)
theorem m_part {ln : Nat → Nat} {t : Nat → Nat} {k key : Nat} {S : HC} {ts : List (Nat × Nat × Nat)} {c : List Int32} {a : Nat} {W : List Int32} {B : List Bool} {post : Int32 → HC → Prop} (hl : LN ln) (hk3 : key < 3) (h : MMx t k key S ts c a W B) (h96 : c.length + W.length + ts.length ≤ 96) (h1 : ∀ S' x r, ts = x :: r → (sy t key x).2.1 = 0 → MMx t k key S' r (stl 6 W (c ++ [nI (sy t key x).2.2])).2 (a + 1) (stl 6 W (c ++ [nI (sy t key x).2.2])).1 B → FT S S' → post 1 S') (h0 : (∀ x r, ts = x :: r → (sy t key x).2.1 ≠ 0) → post 0 S) : wpX8_takesPart ln S 68 post := by
  have hs := h.1.2.2.1
  cases ts with
  | nil =>
    unfold wpX8_takesPart BX8_takesPart_36 BX8_takesPart_37
    rw [lt_e, h.1.1.1, if_neg (by decide), lt_e, if_neg (by decide), if_pos rfl, rb_e0]
    exact h0 (fun x r e => by cases e)
  | cons x r =>
    obtain ⟨⟨a1, a2, a3⟩, ⟨b1, b2⟩, -, tok, -⟩ := id h.1.1
    have ke := kdT_e tok.2.1
    have ht := h.1.2.1
    have hk := h.1.2.2.2
    have hq := tok.1
    have k96 := ht.1
    have b := (ht.2.2 x.1 (by omega)).2
    rw [List.length_cons] at h96
    have d1 := h.2.1.1
    have d3 := h.2.1.2.2
    have good : ∀ v : Nat, (sy t key x).2.1 = 0 → v = (sy t key x).2.2 → BX8_takesPart_87 ln post S 68 77 (nI c.length) (nI v) := fun v u ev => by
      unfold BX8_takesPart_87
      rw [ln77 hl, as_e (by omega) (by decide), lt_e, hI_row (by decide), d1, lt_e, nI_1, lt_e, lt_e, hI_ne (by decide), hI_row (by decide), d3, lt_e, nI_1, lt_e]
      refine (m_settle (r := 6) hl (by decide) W (c ++ [nI v]) _ (by rw [List.length_append]; simp; omega) h.leaf (fun S2 h2 f2 => ?_)).1
      refine m_go hl h2 (fun S3 h3 f3 => ?_)
      rw [rb_e1]
      rw [ev] at h3
      exact h1 S3 x r rfl u h3 (((((FT.arr (Or.inl rfl)).tr (FT.s68 (Or.inr (Or.inl rfl)))).tr (FT.s68 (Or.inr (Or.inr (Or.inl rfl))))).tr f2).tr f3)
    have bad : (sy t key x).2.1 ≠ 0 → kdT x ≠ 2 → BX8_takesPart_36 ln post S 68 := fun u v => by
      unfold BX8_takesPart_36 BX8_takesPart_37
      rw [lt_e, a3, if_neg (show ¬ nI (kdT x) = 2 from fun w => v ((nI_eq (b := 2) (by omega) (by decide)).mp w)), if_pos rfl, rb_e0]
      exact h0 (fun y r' e => by cases e; exact u)
    unfold wpX8_takesPart
    rw [lt_e, a3]
    by_cases c0 : (sy t key x).2.1 = 0
    · rcases sy_leaf tok c0 with ⟨e1, e2, e3, e4⟩ | ⟨e1, e2, e3⟩
      · have k2 : kdT x = 2 := ke.2.2.1.mpr ⟨e1, e2⟩
        rw [if_neg (by rw [k2]; decide)]
        unfold BX8_takesPart_36 BX8_takesPart_37 BX8_takesPart_52
        rw [lt_e, a3, if_pos (by rw [k2]; rfl), sh68_16 hs, dn_e, lt_e, d1, lt_e, if_pos (by rw [k2]; rfl), lt_e, b2 ⟨e1, e2⟩]
        exact good _ c0 e3.symm
      · have k1 : kdT x = 1 := ke.2.1.mpr e1
        have nm := nmX_in e2.2
        rw [if_pos (by rw [k1]; rfl), lt_e, a2, lt_e, a1, lt_e, pk_sub (by omega), if_pos (by rw [e2.1]; rfl), lt_e, b1 (Or.inl e1), m_name hk hk3 b, if_pos e2.2, if_neg (nI_pos (by omega))]
        unfold BX8_takesPart_37 BX8_takesPart_52
        rw [lt_e, a3, if_neg (by rw [k1]; decide), if_neg (by decide), sh68_16 hs, dn_e, lt_e, d1, lt_e, if_neg (by rw [k1]; decide), lt_e, b1 (Or.inl e1), m_name hk hk3 b, if_pos e2.2, lt_e, show (10000 : Int32) + nI (nmX key (t x.1)) = nI (10000 + nmX key (t x.1)) from nI_add 10000 _]
        exact good _ c0 e3.symm
    · have sn := sy_not c0
      have n2 : kdT x ≠ 2 := fun u => (sn.1 (ke.2.2.1.mp u).1) (ke.2.2.1.mp u).2
      by_cases c1 : x.2.2 = 1
      · rw [if_pos (by rw [ke.2.1.mpr c1]; rfl), lt_e, a2, lt_e, a1, lt_e, pk_sub (by omega)]
        by_cases c2 : x.2.1 - x.1 = 1
        · have c3 : ¬ nmX key (t x.1) < 9 := fun u => sn.2 ⟨c1, c2, u⟩
          rw [if_pos (by rw [c2]; rfl), lt_e, b1 (Or.inl c1), m_name hk hk3 b, if_neg c3, if_pos (by decide)]
          exact bad c0 n2
        · rw [if_neg (show ¬ nI (x.2.1 - x.1) = 1 from fun u => c2 ((nI_eq (b := 1) (by omega) (by decide)).mp u))]
          exact bad c0 n2
      · rw [if_neg (show ¬ nI (kdT x) = 1 from fun u => c1 (ke.2.1.mp ((nI_eq (b := 1) (by omega) (by decide)).mp u)))]
        exact bad c0 n2
/-- a sign begins to wait -/
theorem MMx.push {t : Nat → Nat} {k key : Nat} {S : HC} {ts : List (Nat × Nat × Nat)} {c : List Int32} {a : Nat} {W : List Int32} {B : List Bool} {v : Int32} (h : MMx t k key S ts c a W B) : MMx t k key (sI (sI S 78 W.length v) 68 20 (nI (W.length + 1))) ts c a (v :: W) B := by
  obtain ⟨⟨r1, ht, hs, hk⟩, ⟨d1, d2, d3⟩, ⟨w1, w2⟩, hB⟩ := h
  exact ⟨⟨r1.ag (fun i u => by rw [hI_ne (by omega), hI_row (by decide)]), ht.ag (fun r i u => by rw [hI_ne (by omega), hI_row (by omega)]), (hs.sI _ _ _).sI _ _ _, by rw [hI_ne (by decide), hI_row (by decide)]; exact hk⟩, ⟨by rw [hI_ne (by decide), hI_row (by decide)]; exact d1, fun i hi => by rw [hI_row (by decide), hI_row (by decide)]; exact d2 i hi, by rw [hI_ne (by decide), hI_row (by decide)]; exact d3⟩, ⟨by rw [hI_self]; rfl, by rw [hI_row (by decide), hI_self], w2.ag (fun i hi => by rw [hI_row (by decide), hI_ne (by omega)])⟩, hB.ag (fun i _ => by rw [hI_row (by decide), hI_row (by decide)])⟩
theorem MMx.tst {t : Nat → Nat} {k key : Nat} {S : HC} {ts : List (Nat × Nat × Nat)} {c : List Int32} {a : Nat} {W : List Int32} {B : List Bool} {b : Bool} {j : Nat} {v : Int32} (h : MMx t k key S ts c a W B) (hj : j = B.length) (hv : v = if b = true then 1 else 0) : MMx t k key (sI S 79 j v) ts c a W (b :: B) := by
  obtain ⟨⟨r1, ht, hs, hk⟩, ⟨d1, d2, d3⟩, ⟨w1, w2⟩, hB⟩ := h
  subst hj
  exact ⟨⟨r1.ag (fun i u => hI_row (by decide)), ht.ag (fun r i u => hI_row (by omega)), hs.sI _ _ _, by rw [hI_row (by decide)]; exact hk⟩, ⟨by rw [hI_row (by decide)]; exact d1, fun i hi => by rw [hI_row (by decide)]; exact d2 i hi, by rw [hI_row (by decide)]; exact d3⟩, ⟨by rw [hI_row (by decide)]; exact w1, w2.ag (fun i hi => hI_row (by decide))⟩, by rw [hI_self]; exact hv, hB.ag (fun i hi => hI_ne (by omega))⟩
theorem MMx.dropB {t : Nat → Nat} {k key : Nat} {S : HC} {ts : List (Nat × Nat × Nat)} {c : List Int32} {a : Nat} {W : List Int32} {B : List Bool} {b : Bool} (h : MMx t k key S ts c a W (b :: B)) : MMx t k key S ts c a W B := ⟨h.1, h.2.1, h.2.2.1, h.2.2.2.2⟩
-- 87.pmtext3.lean.txt
/-! text: the reference's loop -/
def oN : List Int32 → Nat
  | [] => 0
  | x :: W => (if x = -11 then 1 else 0) + oN W
theorem stl_oN {r : Nat} : ∀ (W c : List Int32), oN (stl r W c).1 = oN W := by
  intro W
  induction W with
  | nil => intro c; rfl
  | cons x V ih =>
    intro c
    rw [stl]
    by_cases q : x = -11 ∨ rk x < r
    · rw [if_pos q]
    · rw [if_neg q, ih, oN, if_neg (fun u => q (Or.inl u))]; omega
theorem stl0_open : ∀ (W c : List Int32), 0 < oN W → ∃ V, (stl 0 W c).1 = -11 :: V ∧ oN V + 1 = oN W := by
  intro W
  induction W with
  | nil => intro c h; rw [oN] at h; omega
  | cons x V ih =>
    intro c h
    rw [stl]
    by_cases q : x = -11
    · rw [if_pos (Or.inl q), q, oN, if_pos rfl]
      exact ⟨V, rfl, by omega⟩
    · rw [oN, if_neg q] at h
      rw [if_neg (fun u => u.elim q (fun u => by omega)), oN, if_neg q]
      obtain ⟨V', e1, e2⟩ := ih (c ++ [x]) (by omega)
      exact ⟨V', e1, by omega⟩
theorem cN_le : ∀ W : List Int32, cN W ≤ W.length := by
  intro W
  induction W with
  | nil => exact Nat.le_refl _
  | cons x V ih => rw [cN, List.length_cons]; split <;> omega
theorem MMx.drop {t : Nat → Nat} {k key : Nat} {S : HC} {ts : List (Nat × Nat × Nat)} {c : List Int32} {a : Nat} {x : Int32} {V : List Int32} {B : List Bool} (h : MMx t k key S ts c a (x :: V) B) : MMx t k key (sI S 68 20 (nI V.length)) ts c a V B := by
  obtain ⟨⟨r1, ht, hs, hk⟩, ⟨d1, d2, d3⟩, ⟨w1, w2⟩, hB⟩ := h
  exact ⟨⟨r1.ag (fun i u => hI_ne (by omega)), ht.ag (fun r i u => hI_ne (by omega)), hs.sI _ _ _, by rw [hI_ne (by decide)]; exact hk⟩, ⟨by rw [hI_ne (by decide)]; exact d1, fun i hi => by rw [hI_row (by decide)]; exact d2 i hi, by rw [hI_ne (by decide)]; exact d3⟩, ⟨hI_self _ _ _ _, w2.2.ag (fun i _ => hI_row (by decide))⟩, hB.ag (fun i _ => hI_row (by decide))⟩
theorem nb0 : vp_nar .boolean 0 = 0 := rfl
theorem nb1 : vp_nar .boolean 1 = 1 := rfl
theorem RTk.pos {t : Nat → Nat} {k : Nat} {S : HC} {ts : List (Nat × Nat × Nat)} (h : RTk t k S ts) : hI S 68 9 = nI (hdp k ts) := by
  cases ts with
  | nil => exact h.2
  | cons x r => exact h.1.1
theorem m_loop {ln : Nat → Nat} {t : Nat → Nat} {k key : Nat} {post : Int32 → HC → Prop} (hl : LN ln) (hk3 : key < 3) : ∀ (m : Nat) (ts : List (Nat × Nat × Nat)) (S : HC) (c : List Int32) (a : Nat) (W : List Int32) (b : Bool) (B : List Bool) (nn : Nat) (w : Bool) (w' : Int32), ts.length < m → (w' = if w = true then 1 else 0) → MMx t k key S ts c a W (b :: B) → c.length + W.length + ts.length ≤ 96 → B.length ≤ 8 → oN W = B.length → nn ≤ 96 → (∀ S' c' a', FT S S' → run k (ts.map (sy t key)) c a W (b :: B) nn w = .inr (c', a') → CDx S' c' a' → c'.length ≤ 96 → post 1 S') → (∀ S' f, FT S S' → run k (ts.map (sy t key)) c a W (b :: B) nn w = .inl f → hI S' 68 9 = nI f → post 0 S') → LX8_takesE_28 ln post m S 68 (nI B.length) (nI nn) w' := by
  intro m
  induction m with
  | zero => intro ts S c a W b B nn w w' hm; omega
  | succ m ih =>
    intro ts S c a W b B nn w w' hm hw' h h96 hB8 hoN hnn good bad
    have hs := h.1.2.2.1
    have w1 := h.2.2.1.1
    rw [LX8_takesE_28]
    dsimp only
    cases w with
    | false =>
      have e0 : w' = 0 := hw'
      subst e0
      rw [if_pos rfl, lt_e]
      cases ts with
      | nil =>
        rw [h.1.1.1, if_pos rfl]
        refine (m_settle (r := 0) hl (by decide) W c S (by omega) h (fun S1 h1 f1 => ?_)).1
        rw [rb_e0, rb_e1]
        have sl := stl_len (r := 0) W c
        by_cases cB : B.length = 0
        · rw [if_pos (by rw [cB]; rfl)]
          refine good S1 _ a f1 ?_ h1.2.1 (by omega)
          rw [List.map_nil, run_nil, if_neg (by decide), if_pos (by rw [List.length_cons]; omega)]
        · rw [if_neg (show ¬ nI B.length = 0 from nI_ne0 (by omega) (by omega))]
          refine bad S1 k f1 ?_ h1.1.1.2
          rw [List.map_nil, run_nil, if_neg (by decide), if_neg (by rw [List.length_cons]; omega)]
      | cons x r =>
        obtain ⟨⟨a1, a2, a3⟩, ⟨b1, b2⟩, -, tok, -⟩ := id h.1.1
        have ke := kdT_e tok.2.1
        rw [List.length_cons] at h96 hm
        rw [List.map_cons, run, if_neg (by decide)] at good bad
        rw [a3, if_neg (nI_ne0 (by omega) (by omega))]
        unfold BX8_takesE_39
        rw [if_pos rfl, m_is (b := 41) (v := 41) h rfl (by decide)]
        -- no closing bracket here
        have nop : ¬ ((sy t key x).2.1 = 4 ∧ 1 < (b :: B).length) → BX8_takesE_237 ln post (LX8_takesE_28 ln post m) S 68 (nI B.length) (nI nn) := fun nc => by
          rw [if_neg nc] at good bad
          unfold BX8_takesE_237 BX8_takesE_266
          rw [m_sign h]
          by_cases c1 : (sy t key x).2.1 = 1
          · have so := sy_op.mp c1
            have v1 : (sy t key x).2.2 = t x.1 := (sy_s3 so.1).2
            have s := sg_ok so.2
            have ol : opL (t x.1) ≤ 4 := by rcases opL_in so.2 with e | e | e | e | e | e | e | e | e <;> rw [e] <;> decide
            have hb79 := h.2.2.2.1
            have b01 : (b :: B).headD false = b := rfl
            rw [v1, b01] at good bad
            have take : ¬ (opL (t x.1) = 2 ∧ b = true) → BX8_takesE_268 ln post (LX8_takesE_28 ln post m) S 68 (nI B.length) (nI nn) (sg (t x.1)) := fun nb => by
              rw [if_pos ⟨c1, nb⟩] at good bad
              have fin : ∀ (v : Int32), (v = if (decide (opL (t x.1) = 2) || (decide (2 < opL (t x.1)) && b)) = true then 1 else 0) → vp_nar .boolean v = v → BX8_takesE_305 ln post (LX8_takesE_28 ln post m) S 68 (nI B.length) (nI nn) (sg (t x.1)) 79 (nI B.length) v := fun v hv hn => by
                unfold BX8_takesE_305
                rw [ln79 hl, as_e (by omega) (by decide), hn, p_rank, s.1]
                have h1 := h.dropB.tst (j := B.length) (b := (decide (opL (t x.1) = 2) || (decide (2 < opL (t x.1)) && b))) rfl hv
                refine (m_settle (r := opL (t x.1) + 1) hl (by omega) W c _ (by omega) h1 (fun S2 h2 f2 => ?_)).1
                have sl := stl_len (r := opL (t x.1) + 1) W c
                rw [sh68_19 h2.1.2.2.1, dn_e, lt_e, h2.2.2.1.1, ln78 hl, as_e (by omega) (by decide), lt_e, hI_row (by decide), h2.2.2.1.1, lt_e, nI_1, lt_e]
                refine m_go hl h2.push (fun S3 h3 f3 => ?_)
                have ff : FT S S3 := ((FT.arr (Or.inr (Or.inr rfl))).tr f2).tr (((FT.arr (Or.inr (Or.inl rfl))).tr (FT.s68 (Or.inr (Or.inr (Or.inr rfl))))).tr f3)
                refine ih r S3 _ a _ _ B nn true 1 (by omega) rfl h3 (by rw [List.length_cons]; omega) hB8 (by rw [oN, if_neg s.2.1, stl_oN, hoN]; omega) hnn (fun S' c' a' f' e' => good S' c' a' (ff.tr f') e') (fun S' f f' e' => bad S' f (ff.tr f') e')
              unfold BX8_takesE_268 BX8_takesE_304 BX8_takesE_300
              rw [sh68_21 hs, dn_e, p_rank, s.1]
              by_cases r3 : opL (t x.1) = 2
              · rw [if_pos (by rw [r3]; rfl)]
                exact fin 1 (by rw [decide_eq_true r3]; rfl) nb1
              · rw [if_neg (show ¬ nI (opL (t x.1) + 1) = 3 from fun u => r3 (by have := (nI_eq (b := 3) (by omega) (by decide)).mp u; omega)), p_rank, s.1]
                by_cases r4 : opL (t x.1) < 2
                · rw [if_pos (show nI (opL (t x.1) + 1) ≤ 3 from nI_le (b := 3) (by omega) (by decide))]
                  exact fin 0 (by rw [decide_eq_false r3, decide_eq_false (show ¬ 2 < opL (t x.1) by omega)]; rfl) nb0
                · rw [if_neg (show ¬ nI (opL (t x.1) + 1) ≤ 3 from nI_ge (a := 3) (by omega) (by omega)), sh68_21 hs, dn_e, ln79 hl, al_e (by omega) (by decide), hb79]
                  cases b with
                  | false =>
                    rw [if_pos (show (if false = true then (1 : Int32) else 0) = 0 by decide)]
                    exact fin 0 (by rw [decide_eq_false r3, Bool.and_false]; rfl) nb0
                  | true =>
                    rw [if_neg (show ¬ (if true = true then (1 : Int32) else 0) = 0 by decide)]
                    exact fin 1 (by rw [decide_eq_false r3, decide_eq_true (show 2 < opL (t x.1) by omega)]; rfl) nb1
            rw [if_pos c1, if_neg (fun u => by rw [u] at s; exact absurd s.2.2.2.1 (by decide)), p_rank, s.1]
            by_cases r3 : opL (t x.1) = 2
            · rw [if_pos (by rw [r3]; rfl), sh68_21 hs, dn_e, ln79 hl, al_e (by omega) (by decide), hb79]
              cases b with
              | false =>
                rw [if_pos (show (if false = true then (1 : Int32) else 0) = 0 by decide)]
                exact take (fun u => by cases u.2)
              | true =>
                rw [if_neg (fun u => u.2 ⟨r3, rfl⟩)] at bad
                rw [if_neg (show ¬ (if true = true then (1 : Int32) else 0) = 0 by decide), rb_e0]
                exact bad S x.1 (FT.rf S) rfl a1
            · rw [if_neg (show ¬ nI (opL (t x.1) + 1) = 3 from fun u => r3 (by have := (nI_eq (b := 3) (by omega) (by decide)).mp u; omega))]
              exact take (fun u => r3 u.1)
          · rw [if_neg (fun u => c1 u.1)] at bad
            rw [if_neg c1, if_pos rfl, rb_e0]
            exact bad S x.1 (FT.rf S) rfl a1
        by_cases c4 : x.2.2 = 3 ∧ t x.1 = 41
        · have k4 : (sy t key x).2.1 = 4 := (sy_k (Or.inr (Or.inr ⟨rfl, rfl⟩))).mpr c4
          rw [if_pos c4]
          cases B with
          | nil =>
            rw [if_pos (by decide)]
            exact nop (fun u => by simp at u)
          | cons b2 B2 =>
            have lc : (b :: b2 :: B2).length = B2.length + 2 := rfl
            rw [if_neg (nI_nle (by rw [List.length_cons]; omega) (by omega))]
            rw [if_pos ⟨k4, by rw [lc]; omega⟩] at good bad
            refine (m_settle (r := 0) hl (by decide) W c S (by omega) h (fun S1 h1 f1 => ?_)).1
            have sl0 := stl_len (r := 0) W c
            rw [List.length_cons] at hoN hB8
            obtain ⟨V, eV, oV⟩ := stl0_open W c (by omega)
            rw [eV] at h1 good bad sl0
            rw [List.length_cons] at sl0
            dsimp only [List.tail_cons] at good bad
            have e20 : hI S1 68 20 = nI (V.length + 1) := h1.2.2.1.1
            rw [lt_e, e20, lt_e, show nI (V.length + 1) - 1 = nI V.length from pk_sub (a := V.length + 1) (b := 1) (by omega), lt_e, lt_e, show nI (b2 :: B2).length + -1 = nI B2.length from pk_m1 B2.length]
            refine (m_settle (r := 6) hl (by decide) V (stl 0 W c).2 _ (by omega) h1.drop (fun S2 h2 f2 => ?_)).1
            have sl6 := stl_len (r := 6) V (stl 0 W c).2
            refine m_nots hl h2 (by omega) ?_
            refine m_go hl h2 (fun S3 h3 f3 => ?_)
            have ff : FT S S3 := ((f1.tr (FT.s68 (Or.inr (Or.inr (Or.inr rfl))))).tr f2).tr f3
            have cn := cN_le (stl 6 V (stl 0 W c).2).1
            exact ih r S3 _ a _ b2 B2 _ false 0 (by omega) rfl h3.dropB (by omega) (by omega) (by rw [stl_oN]; omega) (by omega) (fun S' c' a' f' e' => good S' c' a' (ff.tr f') e') (fun S' f f' e' => bad S' f (ff.tr f') e')
        · have nk4 : (sy t key x).2.1 ≠ 4 := fun u => c4 ((sy_k (Or.inr (Or.inr ⟨rfl, rfl⟩))).mp u)
          rw [if_neg c4]
          exact nop (fun u => nk4 u.1)
    | true =>
      have e0 : w' = 1 := hw'
      subst e0
      rw [if_neg (by decide)]
      unfold BX8_takesE_39
      rw [if_neg (by decide)]
      cases ts with
      | nil =>
        rw [m_is0 h]
        unfold BX8_takesE_97 BX8_takesE_158
        rw [m_is0 h]
        refine m_part hl hk3 h (by omega) (fun S' x r e => by cases e) (fun _ => ?_)
        rw [if_pos rfl, rb_e0]
        exact bad S k (FT.rf S) (by rw [List.map_nil, run_nil, if_pos rfl]) h.1.1.2
      | cons x r =>
        rw [List.length_cons] at h96 hm
        rw [List.map_cons, run, if_pos rfl] at good bad
        have tok := h.1.1.2.2.2.1
        -- a NUMBER, a NAME, or nothing
        have part : ¬ ((sy t key x).2.1 = 2 ∧ nn < 8) → ¬ ((sy t key x).2.1 = 3 ∧ (b :: B).length ≤ 8) → BX8_takesE_158 ln post (LX8_takesE_28 ln post m) S 68 (nI B.length) := fun n2 n3 => by
          rw [if_neg n2, if_neg n3] at good bad
          unfold BX8_takesE_158 BX8_takesE_172
          refine m_part hl hk3 h (by rw [List.length_cons]; omega) (fun S1 y r' e u h1 f1 => ?_) (fun u => ?_)
          · cases e
            rw [if_pos u] at good bad
            rw [if_neg (by decide)]
            have sl := stl_len (r := 6) W (c ++ [nI (sy t key x).2.2])
            rw [List.length_append] at sl
            have sl' : (stl 6 W (c ++ [nI (sy t key x).2.2])).1.length + (stl 6 W (c ++ [nI (sy t key x).2.2])).2.length = W.length + (c.length + 1) ∧ (stl 6 W (c ++ [nI (sy t key x).2.2])).1.length ≤ W.length := sl
            have cn := cN_le (stl 6 W (c ++ [nI (sy t key x).2.2])).1
            refine m_nots hl h1 (by omega) ?_
            exact ih r S1 _ (a + 1) _ b B _ false 0 (by omega) rfl h1 (by omega) hB8 (by rw [stl_oN, hoN]) (by omega) (fun S' c' a' f' e' => good S' c' a' (f1.tr f') e') (fun S' f f' e' => bad S' f (f1.tr f') e')
          · have u0 := u x r rfl
            rw [if_neg u0] at bad
            rw [if_pos rfl, rb_e0]
            exact bad S x.1 (FT.rf S) rfl h.1.1.1.1
        have brk : ¬ ((sy t key x).2.1 = 2 ∧ nn < 8) → BX8_takesE_97 ln post (LX8_takesE_28 ln post m) S 68 (nI B.length) 1 := fun n2 => by
          unfold BX8_takesE_97
          rw [m_is (b := 40) (v := 40) h rfl (by decide)]
          by_cases c3 : x.2.2 = 3 ∧ t x.1 = 40
          · have k3 : (sy t key x).2.1 = 3 := (sy_k (Or.inr (Or.inl ⟨rfl, rfl⟩))).mpr c3
            rw [if_pos c3]
            by_cases c8 : B.length = 8
            · rw [if_pos (show (8 : Int32) ≤ nI B.length from nI_le (a := 8) (by omega) (by omega))]
              exact part n2 (fun u => by rw [List.length_cons] at u; omega)
            · rw [if_neg n2, if_pos ⟨k3, by rw [List.length_cons]; omega⟩] at good bad
              rw [if_neg (show ¬ (8 : Int32) ≤ nI B.length from nI_ge (b := 8) (by omega) (by decide)), sh68_19 hs, dn_e, lt_e, w1, ln78 hl, as_e (by omega) (by decide), lt_e, hI_row (by decide), w1, lt_e, nI_1, lt_e, lt_e, nI_1, sh68_21 ((hs.sI _ _ _).sI _ _ _), dn_e, ln79 hl, as_e (by omega) (by decide), nb0]
              refine m_go hl (h.push.tst (j := B.length + 1) (b := false) rfl rfl) (fun S3 h3 f3 => ?_)
              unfold BX8_takesE_172
              refine m_nots hl h3 (by rw [List.length_cons]; omega) ?_
              have ff : FT S S3 := (((FT.arr (Or.inr (Or.inl rfl))).tr (FT.s68 (Or.inr (Or.inr (Or.inr rfl))))).tr (FT.arr (Or.inr (Or.inr rfl)))).tr f3
              have cn := cN_le (-11 :: W)
              rw [List.length_cons] at cn
              exact ih r S3 c a _ false (b :: B) _ true 1 (by omega) rfl h3 (by rw [List.length_cons]; omega) (by rw [List.length_cons]; omega) (by rw [oN, if_pos rfl, List.length_cons]; omega) (by omega) (fun S' c' a' f' e' => good S' c' a' (ff.tr f') e') (fun S' f f' e' => bad S' f (ff.tr f') e')
          · have nk3 : (sy t key x).2.1 ≠ 3 := fun u => c3 ((sy_k (Or.inr (Or.inl ⟨rfl, rfl⟩))).mp u)
            rw [if_neg c3]
            exact part n2 (fun u => nk3 u.1)
        rw [m_is (b := 33) (v := 33) h rfl (by decide)]
        by_cases c2 : x.2.2 = 3 ∧ t x.1 = 33
        · have k2 : (sy t key x).2.1 = 2 := (sy_k (Or.inl ⟨rfl, rfl⟩)).mpr c2
          rw [if_pos c2]
          by_cases c8 : 8 ≤ nn
          · rw [if_pos (show (8 : Int32) ≤ nI nn from nI_le (a := 8) c8 (by omega))]
            exact brk (fun u => by omega)
          · rw [if_pos ⟨k2, by omega⟩] at good bad
            rw [if_neg (show ¬ (8 : Int32) ≤ nI nn from nI_ge (b := 8) (by omega) (by decide)), sh68_19 hs, dn_e, lt_e, w1, ln78 hl, as_e (by omega) (by decide), lt_e, hI_row (by decide), w1, lt_e, nI_1, lt_e, lt_e]
            refine m_go hl h.push (fun S3 h3 f3 => ?_)
            unfold BX8_takesE_172
            refine m_nots hl h3 (by rw [List.length_cons]; omega) ?_
            have ff : FT S S3 := ((FT.arr (Or.inr (Or.inl rfl))).tr (FT.s68 (Or.inr (Or.inr (Or.inr rfl))))).tr f3
            have cn := cN_le (-10 :: W)
            rw [List.length_cons] at cn
            exact ih r S3 c a _ b B _ true 1 (by omega) rfl h3 (by rw [List.length_cons]; omega) hB8 (by rw [oN, if_neg (by decide)]; omega) (by omega) (fun S' c' a' f' e' => good S' c' a' (ff.tr f') e') (fun S' f f' e' => bad S' f (ff.tr f') e')
        · have nk2 : (sy t key x).2.1 ≠ 2 := fun u => c2 ((sy_k (Or.inl ⟨rfl, rfl⟩)).mp u)
          rw [if_neg c2]
          exact brk (fun u => nk2 u.1)
-- 88.pkey.lean.txt
/-! text: the key, both sides -/
abbrev kwP (t : Nat → Nat) (a : Nat) (x : Nat × Nat × Nat) : Prop := x.2.2 = 1 ∧ x.2.1 - x.1 = strL.getD a 0 ∧ ∀ i, i < strL.getD a 0 → nI (t (x.1 + i)) = (strB.getD a []).getD i 0
theorem st_len : ∀ a : Fin 3, 0 < strL.getD a.val 0 ∧ strL.getD a.val 0 ≤ 4 ∧ nI (strL.getD a.val 0) >>> ((0 : Int32) &&& 31) = nI (strL.getD a.val 0) := by decide
theorem st_byt : ∀ a : Fin 3, ∀ i : Fin 4, ∃ c : Fin 128, (strB.getD a.val []).getD i.val 0 = nI c.val := by decide +kernel
theorem rb_ch {q : Nat} {K : Prop} (h : q < 65536) : rb_ .char (nI q) K = K := by
  unfold rb_
  exact propext ⟨fun u => u.2, fun u => ⟨(pk_charN h).1, u⟩⟩
theorem c_len {ln : Nat → Nat} {S : HC} {a : Nat} {post : Int32 → HC → Prop} (ha : a < 3) : wpJ0_length_8abf5 ln S a post = post (nI (strL.getD a 0)) S := by
  unfold wpJ0_length_8abf5 wpJ0_coder_7d493
  rw [lt_e, if_neg (by decide), rb_by0]
  try dsimp only
  rw [lt_e, (st_len ⟨a, ha⟩).2.2]
theorem c_char {ln : Nat → Nat} {S : HC} {a i : Nat} {post : Int32 → HC → Prop} (ha : a < 3) (hi : i < strL.getD a 0) : wpJ0_charAt_5068e ln S a (nI i) post = post ((strB.getD a []).getD i 0) S := by
  have l4 := (st_len ⟨a, ha⟩).2.1
  dsimp only at l4
  obtain ⟨⟨c, hc⟩, ec⟩ := st_byt ⟨a, ha⟩ ⟨i, by omega⟩
  dsimp only at ec
  unfold wpJ0_charAt_5068e wpJ0_isLatin1_aae02
  rw [if_neg (by decide), if_pos rfl, rb_e1]
  try dsimp only
  rw [if_neg (by decide)]
  unfold wpJ1_charAt_3b067 wpJ0_checkIndex_df160 wpJ3_checkIndex
  rw [lt_e, if_neg (nI_pos (by omega)), if_pos (nI_lt hi (by omega))]
  try dsimp only
  rw [al_e hi (by omega), ec, lt_e, lt_e, pk_andN (by omega) 8 (by decide), Nat.mod_eq_of_lt (by omega), ch_e (by omega), rb_ch (by omega)]
  try dsimp only
  rw [rb_ch (by omega)]
theorem c_word {ln : Nat → Nat} {t : Nat → Nat} {k a : Nat} {S : HC} {x : Nat × Nat × Nat} {r : List (Nat × Nat × Nat)} {post : Int32 → HC → Prop} (hs : SH S) (hl : LN ln) (ha : a < 3) (ht : TP S t k) (ct : CT t k S (x :: r)) (h : post (bI (kwP t a x)) S) : wpX2_isWord ln S 37 a post := by
  obtain ⟨⟨a1, a2, a3⟩, tok, -⟩ := ct
  have h96 := ht.1
  have hq := tok.1
  have s4 := tok.2.1
  have l4 := (st_len ⟨a, ha⟩).2.1
  dsimp only at l4
  unfold wpX2_isWord BX2_isWord_24
  rw [lt_e, a1, rb_e0]
  by_cases c1 : x.2.2 = 1
  · rw [if_pos (by rw [c1]; rfl), lt_e, a3, lt_e, a2, lt_e, pk_sub (by omega), c_len ha]
    by_cases c2 : x.2.1 - x.1 = strL.getD a 0
    · rw [if_pos (by rw [c2])]
      have key : ∀ m i, i + m = strL.getD a 0 → (∀ j, j < i → nI (t (x.1 + j)) = (strB.getD a []).getD j 0) → LX2_isWord_28 ln post (m + 1) S 37 a (nI i) := by
        intro m
        induction m with
        | zero =>
          intro i hi hj
          rw [LX2_isWord_28]
          dsimp only
          rw [c_len ha, if_pos (nI_le (by omega) (by omega)), rb_e1]
          rw [bI_t ⟨c1, c2, fun j u => hj j (by omega)⟩] at h
          exact h
        | succ m ih =>
          intro i hi hj
          rw [LX2_isWord_28]
          dsimp only
          rw [c_len ha, if_neg (nI_ge (by omega) (by omega)), sh37_0 hs, dn_e, lt_e, a2, lt_e, nI_add, p_at hs hl ht (by omega), if_pos (show x.1 + i < k by omega), c_char ha (by omega)]
          by_cases c3 : nI (t (x.1 + i)) = (strB.getD a []).getD i 0
          · rw [if_pos c3, lt_e, nI_1]
            refine ih (i + 1) (by omega) (fun j u => ?_)
            by_cases e : j = i
            · rw [e]; exact c3
            · exact hj j (by omega)
          · rw [if_neg c3, rb_e0]
            rw [bI_f (fun u => c3 (u.2.2 i (by omega)))] at h
            exact h
      exact ⟨_, key (strL.getD a 0) 0 (by omega) (fun j u => absurd u (by omega))⟩
    · rw [if_neg (fun u => c2 ((nI_eq (by omega) (by omega)).mp u)), rb_e0]
      rw [bI_f (fun u => c2 u.2.1)] at h
      exact h
  · rw [if_neg (show ¬ nI x.2.2 = 1 from fun u => c1 ((nI_eq (b := 1) (by omega) (by decide)).mp u))]
    rw [bI_f (fun u => c1 u.1)] at h
    exact h
theorem c_word0 {ln : Nat → Nat} {t : Nat → Nat} {k a : Nat} {S : HC} {post : Int32 → HC → Prop} (ct : CT t k S []) (h : post 0 S) : wpX2_isWord ln S 37 a post := by
  unfold wpX2_isWord BX2_isWord_24
  rw [lt_e, ct.1, if_neg (by decide), rb_e0]
  exact h
/-- which key stands there: 3 none -/
def kf (t : Nat → Nat) : List (Nat × Nat × Nat) → Nat
  | [] => 3
  | x :: _ => if kwP t 0 x then 0 else if kwP t 1 x then 1 else if kwP t 2 x then 2 else 3
theorem c_key {ln : Nat → Nat} {t : Nat → Nat} {k : Nat} {S : HC} {ts : List (Nat × Nat × Nat)} {post : Int32 → HC → Prop} (hs : SH S) (hl : LN ln) (ht : TP S t k) (ct : CT t k S ts) (h : post (if kf t ts < 3 then nI (kf t ts) else -1) S) : wpX2_keyHere ln S 37 post := by
  unfold wpX2_keyHere
  cases ts with
  | nil =>
    refine c_word0 ct ?_
    rw [if_pos rfl]
    refine c_word0 ct ?_
    rw [if_pos rfl]
    refine c_word0 ct ?_
    rw [if_pos rfl]
    exact h
  | cons x r =>
    refine c_word hs hl (by decide) ht ct ?_
    rw [kf] at h
    by_cases c0 : kwP t 0 x
    · rw [bI_t c0, if_neg (by decide)]
      rw [if_pos c0] at h
      exact h
    rw [bI_f c0, if_pos rfl]
    rw [if_neg c0] at h
    refine c_word hs hl (by decide) ht ct ?_
    by_cases c1 : kwP t 1 x
    · rw [bI_t c1, if_neg (by decide)]
      rw [if_pos c1] at h
      exact h
    rw [bI_f c1, if_pos rfl]
    rw [if_neg c1] at h
    refine c_word hs hl (by decide) ht ct ?_
    by_cases c2 : kwP t 2 x
    · rw [bI_t c2, if_neg (by decide)]
      rw [if_pos c2] at h
      exact h
    rw [bI_f c2, if_pos rfl]
    rw [if_neg c2] at h
    exact h
theorem ky_at : ∀ w : Fin 3, (([0, 4, 7, 11] : List Int32).getD (w.val + 1) 0 - ([0, 4, 7, 11] : List Int32).getD w.val 0 = nI (strL.getD w.val 0)) ∧ ∃ o : Fin 8, ([0, 4, 7, 11] : List Int32).getD w.val 0 = nI o.val ∧ ∀ i : Fin 4, i.val < strL.getD w.val 0 → o.val + i.val < 11 ∧ ([106, 111, 105, 110, 102, 101, 101, 102, 105, 110, 101] : List Int32).getD (o.val + i.val) 0 = (strB.getD w.val []).getD i.val 0 := by decide +kernel
theorem r_word {ln : Nat → Nat} {t : Nat → Nat} {k w : Nat} {S : HC} {x : Nat × Nat × Nat} {r : List (Nat × Nat × Nat)} {post : Int32 → HC → Prop} {K : HC → Nat → Int32 → Prop} (hs : SH S) (hl : LN ln) (hw : w < 3) (ht : TPm S t k) (hk : pKey S) (ct : RTk t k S (x :: r)) (x1 : x.2.2 = 1) (hA : kwP t w x → BX8_takesKey_106 ln post K S 68 (nI w) 1) (hC : ¬ kwP t w x → BX8_takesKey_106 ln post K S 68 (nI w) 0) : if nI (strL.getD w 0) = nI (x.2.1 - x.1) then BX8_takesKey_51 ln post K S 68 (nI w) (nI (strL.getD w 0)) 1 else BX8_takesKey_51 ln post K S 68 (nI w) (nI (strL.getD w 0)) 0 := by
  obtain ⟨⟨a1, a2, a3⟩, -, -, tok, -⟩ := ct
  have h96 := ht.1
  have hq := tok.1
  have l4 := st_len ⟨w, hw⟩
  obtain ⟨-, ⟨o, ho8⟩, ho, hb⟩ := ky_at ⟨w, hw⟩
  dsimp only at l4 ho hb
  have stop : ∀ n (i : Nat) (f : Int32), f = 0 → (f = 0 → BX8_takesKey_106 ln post K S 68 (nI w) 0) → LX8_takesKey_55 ln post K (n + 1) S 68 (nI w) (nI (strL.getD w 0)) f (nI i) := fun n i f e h => by
    rw [LX8_takesKey_55]
    dsimp only
    rw [e, if_pos rfl]
    split
    · exact h e
    · exact h e
  by_cases c2 : x.2.1 - x.1 = strL.getD w 0
  · rw [if_pos (by rw [c2])]
    unfold BX8_takesKey_51
    have key : ∀ m i, i + m = strL.getD w 0 → (∀ j, j < i → nI (t (x.1 + j)) = (strB.getD w []).getD j 0) → LX8_takesKey_55 ln post K (m + 2) S 68 (nI w) (nI (strL.getD w 0)) 1 (nI i) := by
      intro m
      induction m with
      | zero =>
        intro i hi hj
        rw [LX8_takesKey_55]
        dsimp only
        rw [if_pos (nI_le (by omega) (by omega))]
        exact hA ⟨x1, c2, fun j u => hj j (by omega)⟩
      | succ m ih =>
        intro i hi hj
        have b := hb ⟨i, by omega⟩ (by dsimp only; omega)
        dsimp only at b
        have e75 : hI S 75 (o + i) = (strB.getD w []).getD i 0 := (hk.1 (o + i) b.1).trans b.2
        have e76 : hI S 76 w = nI o := (hk.2 w (by omega)).trans ho
        rw [LX8_takesKey_55]
        dsimp only
        unfold BX8_takesKey_99
        rw [if_neg (nI_ge (by omega) (by omega)), if_neg (by decide), sh68_6 hs, dn_e, lt_e, a1, lt_e, nI_add, ln74 hl, al_e (by omega) (by decide), (ht.2.2 (x.1 + i) (by omega)).1, sh68_14 hs, dn_e, sh68_15 hs, dn_e, ln76 hl, al_e (by omega) (by decide), e76, lt_e, nI_add, ln75 hl, al_e b.1 (by decide), e75]
        simp only [lt_e]
        rw [nI_1]
        by_cases c3 : nI (t (x.1 + i)) = (strB.getD w []).getD i 0
        · rw [if_pos c3]
          refine ih (i + 1) (by omega) (fun j u => ?_)
          by_cases e : j = i
          · rw [e]; exact c3
          · exact hj j (by omega)
        · rw [if_neg c3]
          exact stop _ _ 0 rfl (fun _ => hC (fun u => c3 (u.2.2 i (by omega))))
    exact ⟨_, key (strL.getD w 0) 0 (by omega) (fun j u => absurd u (by omega))⟩
  · rw [if_neg (fun u => c2 ((nI_eq (by omega) (by omega)).mp u).symm)]
    unfold BX8_takesKey_51
    exact ⟨1, stop 0 0 0 rfl (fun _ => hC (fun u => c2 u.2.1))⟩
theorem r_key {ln : Nat → Nat} {t : Nat → Nat} {k : Nat} {S : HC} {ts : List (Nat × Nat × Nat)} {post : Int32 → HC → Prop} (hs : SH S) (hl : LN ln) (ht : TPm S t k) (hk : pKey S) (ct : RTk t k S ts) (h1 : ∀ x r, ts = x :: r → kf t ts < 3 → wpX8_go ln (sI S 68 13 (nI (kf t ts))) 68 fun S => post 1 S) (h0 : ¬ kf t ts < 3 → post 0 S) : wpX8_takesKey ln S 68 post := by
  unfold wpX8_takesKey
  cases ts with
  | nil =>
    rw [lt_e, ct.1, if_neg (by decide), rb_e0]
    exact h0 (by rw [kf]; decide)
  | cons x r =>
    obtain ⟨⟨a1, a2, a3⟩, -, -, tok, -⟩ := id ct
    have ke := kdT_e tok.2.1
    have h96 := ht.1
    have hq := tok.1
    rw [lt_e, a3]
    by_cases c1 : x.2.2 = 1
    · rw [if_pos (by rw [ke.2.1.mpr c1]; rfl)]
      have h1' := h1 x r rfl
      rw [kf] at h1' h0
      have one : ∀ (n w : Nat), w < 3 → (kwP t w x → wpX8_go ln (sI S 68 13 (nI w)) 68 fun S => post 1 S) → (¬ kwP t w x → LX8_takesKey_12 ln post n S 68 (nI (w + 1))) → LX8_takesKey_12 ln post (n + 1) S 68 (nI w) := fun n w hw g1 g0 => by
        have e1 : hI S 76 (w + 1) = ([0, 4, 7, 11] : List Int32).getD (w + 1) 0 := hk.2 (w + 1) (by omega)
        have e0 : hI S 76 w = ([0, 4, 7, 11] : List Int32).getD w 0 := hk.2 w (by omega)
        have ky := (ky_at ⟨w, hw⟩).1
        dsimp only at ky
        rw [LX8_takesKey_12]
        dsimp only
        rw [if_neg (show ¬ (3 : Int32) ≤ nI w from nI_ge (b := 3) hw (by decide)), sh68_15 hs, dn_e, lt_e, nI_1, ln76 hl, al_e (by omega) (by decide), dn_e, ln76 hl, al_e (by omega) (by decide), lt_e, lt_e, a2, lt_e, a1, lt_e, pk_sub (by omega), e1, e0, ky]
        refine r_word hs hl hw ht hk ct c1 (fun u => ?_) (fun u => ?_)
        · unfold BX8_takesKey_106
          rw [if_neg (by decide), lt_e]
          simp only [rb_e1]
          exact g1 u
        · unfold BX8_takesKey_106
          rw [if_pos rfl, lt_e, nI_1]
          exact g0 u
      refine ⟨4, one 3 0 (by decide) (fun u => ?_) (fun u0 => one 2 1 (by decide) (fun u => ?_) (fun u1 => one 1 2 (by decide) (fun u => ?_) (fun u2 => ?_)))⟩
      · rw [if_pos u] at h1'
        exact h1' (by decide)
      · rw [if_neg u0, if_pos u] at h1'
        exact h1' (by decide)
      · rw [if_neg u0, if_neg u1, if_pos u] at h1'
        exact h1' (by decide)
      · rw [if_neg u0, if_neg u1, if_neg u2] at h0
        rw [LX8_takesKey_12]
        dsimp only
        rw [if_pos (by decide), rb_e0]
        exact h0 (by decide)
    · rw [if_neg (show ¬ nI (kdT x) = 1 from fun u => c1 (ke.2.1.mp ((nI_eq (b := 1) (by omega) (by decide)).mp u))), rb_e0]
      refine h0 ?_
      rw [kf, if_neg (fun u => c1 u.1), if_neg (fun u => c1 u.1), if_neg (fun u => c1 u.1)]
      decide
-- 89.pread2.lean.txt
/-! text: the tape read, the class's side -/
theorem lx_len {t : Nat → Nat} {k : Nat} : ∀ n p g, p ≤ k → (lx t k n p g).length ≤ k - p := by
  intro n
  induction n with
  | zero => intro p g hp; rw [lx]; simp
  | succ n ih =>
    intro p g hp
    rw [lx]
    by_cases c : sk t k (k - p) p < k
    · rw [if_pos c, List.length_cons]
      obtain ⟨tok, tp⟩ := tk1_ok (t := t) (k := k) (p := p) (g := g) c
      have h1 := tok.1
      have := ih (tk1 t k p g).2.1 (decide ((tk1 t k p g).2.2 ≠ 3)) h1.2
      omega
    · rw [if_neg c]; simp
def GOOD (t : Nat → Nat) (k key : Nat) (cc : List Int32) (lv : Nat) : Prop := ∃ x r, lx t k k 0 false = x :: r ∧ kf t (lx t k k 0 false) = key ∧ run k (r.map (sy t key)) [] 0 [] [false] 0 true = .inr (cc.map trS, lv)
def FAIL (t : Nat → Nat) (k f : Nat) : Prop := (¬ kf t (lx t k k 0 false) < 3 ∧ f = hdp k (lx t k k 0 false)) ∨ ∃ x r, lx t k k 0 false = x :: r ∧ kf t (lx t k k 0 false) < 3 ∧ run k (r.map (sy t (kf t (lx t k k 0 false)))) [] 0 [] [false] 0 true = .inl f
theorem kf_1 {t : Nat → Nat} {x : Nat × Nat × Nat} {r : List (Nat × Nat × Nat)} (h : kf t (x :: r) < 3) : x.2.2 = 1 := by
  rw [kf] at h
  by_cases c0 : kwP t 0 x
  · exact c0.1
  rw [if_neg c0] at h
  by_cases c1 : kwP t 1 x
  · exact c1.1
  rw [if_neg c1] at h
  by_cases c2 : kwP t 2 x
  · exact c2.1
  rw [if_neg c2] at h
  omega
theorem c_read {ln : Nat → Nat} {t : Nat → Nat} {k : Nat} {S : HC} {post : HC → Prop} (hs : SH S) (hl : LN ln) (ht : TP S t k) (good : ∀ S' key cc lv, FR S S' → SH S' → key < 3 → GOOD t k key cc lv → (hI S' 37 10 = -1 ∧ hI S' 37 4 = nI key ∧ hI S' 37 7 = nI lv) → (hI S' 37 6 = nI cc.length ∧ ∀ i, i < cc.length → hI S' 40 i = cc.getD i 0) → (∀ v, v ∈ cc → gCd key v) → wfL (cc.map trS) 0 = some 1 → cc.length ≤ 96 → post S') (bad : ∀ S' f, FR S S' → SH S' → hI S' 37 10 = nI f → f ≤ 96 → FAIL t k f → post S') : wpX2_readTape ln S 37 post := by
  have h96 := ht.1
  unfold wpX2_readTape
  simp only [lt_e]
  generalize hS1 : sI (sI (sI (sI (sI (sI (sI (sI S 37 1 0) 37 2 0) 37 3 0) 37 6 0) 37 7 0) 37 8 0) 37 9 0) 37 10 (-1) = S1
  have fr1 : FR S S1 := by
    rw [← hS1]
    exact ((((((FR.s37.tr FR.s37).tr FR.s37).tr FR.s37).tr FR.s37).tr FR.s37).tr FR.s37).tr FR.s37
  have f1 : hI S1 37 1 = 0 := by rw [← hS1, hI_ne (by decide), hI_ne (by decide), hI_ne (by decide), hI_ne (by decide), hI_ne (by decide), hI_ne (by decide), hI_ne (by decide), hI_self]
  have f3 : hI S1 37 3 = 0 := by rw [← hS1, hI_ne (by decide), hI_ne (by decide), hI_ne (by decide), hI_ne (by decide), hI_ne (by decide), hI_self]
  have f6 : hI S1 37 6 = 0 := by rw [← hS1, hI_ne (by decide), hI_ne (by decide), hI_ne (by decide), hI_ne (by decide), hI_self]
  have f7 : hI S1 37 7 = 0 := by rw [← hS1, hI_ne (by decide), hI_ne (by decide), hI_ne (by decide), hI_self]
  have f8 : hI S1 37 8 = 0 := by rw [← hS1, hI_ne (by decide), hI_ne (by decide), hI_self]
  have f9 : hI S1 37 9 = 0 := by rw [← hS1, hI_ne (by decide), hI_self]
  have f10 : hI S1 37 10 = -1 := by rw [← hS1, hI_self]
  have hs1 : SH S1 := hs.of (fun _ _ => fr1.2 _ _)
  have ht1 : TP S1 t k := ht.ag (fun r i u => fr1.1 r i (by omega) (by omega))
  refine p_adv (s0 := 0) (p := 0) (n := k) hs1 hl ht1 f1 (by decide) f3 (Nat.zero_le _) (by omega) (fun S2 ct2 fa2 => ?_)
  rw [show decide ((0 : Nat) = 1 ∨ (0 : Nat) = 2) = false from rfl] at ct2
  have hs2 := fa2.sh hs1
  have ht2 := fa2.tp ht1
  have len := lx_len (t := t) (k := k) k 0 false (Nat.zero_le _)
  have fr2 := fr1.tr fa2.fr
  refine c_key hs2 hl ht2 ct2 ?_
  rw [hI_self]
  by_cases ck : kf t (lx t k k 0 false) < 3
  · rw [if_pos ck, if_pos (nI_pos' (by omega))]
    cases e : lx t k k 0 false with
    | nil => rw [e, kf] at ck; omega
    | cons x r =>
      rw [e] at ct2 ck len
      rw [List.length_cons] at len
      have x1 := kf_1 ck
      have c3 : CCx t k (kf t (x :: r)) (sI S2 37 4 (nI (kf t (x :: r)))) (x :: r) [] 0 0 0 := ⟨⟨ct2.ag (fun i u => hI_ne (by omega)), ht2.ag (fun r i u => hI_row (by omega)), hs2.sI _ _ _⟩, ⟨by rw [hI_ne (by decide), fa2.1 _ _ (by omega)]; exact f10, hI_self _ _ _ _⟩, ⟨by rw [hI_ne (by decide), fa2.1 _ _ (by omega)]; exact f6, fun i hi => absurd hi (by simp)⟩, by rw [hI_ne (by decide), fa2.1 _ _ (by omega)]; exact f7, by rw [hI_ne (by decide), fa2.1 _ _ (by omega)]; exact f8, by rw [hI_ne (by decide), fa2.1 _ _ (by omega)]; exact f9⟩
      refine c_adv hl c3 (by omega) (fun S4 c4 fr4 => ?_)
      have fr4' := (fr2.tr (FR.s37 (i := 4))).tr fr4
      show (wpRec ln 80).1 S4 37 (nI 0) _
      refine (CLP hl ck 80).1 S4 r [] 0 0 0 0 _ (by omega) (by omega) (by omega) (by omega) c4 (by rw [List.length_nil]; omega) (fun S5 ts5 g lv5 c5 fr5 g5 sim => ?_) (fun S5 f fr5 e5 f96 s5 sim => ?_)
      · obtain ⟨P, rc, b', e1, e2, e3, e4, e6⟩ := sim [] [] false ⟨Or.inl rfl, fun _ => rfl⟩ rfl rfl
        rw [List.nil_append] at c5 e2
        rw [List.append_nil] at e1
        cases ts5 with
        | nil =>
          rw [c5.1.1.1, if_pos rfl]
          have glen := g5.2.2
          rw [List.length_nil] at glen
          refine good S5 (kf t (x :: r)) g lv5 (fr4'.tr fr5) c5.1.2.2 ck ⟨x, r, e, by rw [e], ?_⟩ ⟨c5.2.1.1, c5.2.1.2, c5.2.2.2.1⟩ c5.2.2.1 g5.1 (g5.2.1 0) (by omega)
          rw [List.map_nil] at e1
          rw [e1, List.map_nil, run_nil, if_neg (by decide), if_pos (show [b'].length ≤ 1 from Nat.le_refl 1)]
          have sp := stl_pop (r := 0) P [] rc (fun z hz => ⟨Nat.zero_le _, (e3 z hz).2.1⟩)
          rw [List.append_nil] at sp
          rw [sp, stl, e2]
        | cons y r5 =>
          have s5 := c5.1.1.2.1.2.1
          rw [c5.1.1.1.1, if_neg (nI_ne0 (by omega) (by omega))]
          refine c_fail c5 (fun S6 fr6 e7 s6 => bad S6 (hdp k (y :: r5)) ((fr4'.tr fr5).tr fr6) s6 e7 (hdp_le c5) (Or.inr ⟨x, r, e, by rw [e]; exact ck, ?_⟩))
          rw [e]
          rw [List.map_nil] at e1
          rw [e1]
          exact run_stop e6 (fun q => by cases q) (fun _ _ _ _ => rfl)
      · have ef : FAIL t k f := Or.inr ⟨x, r, e, by rw [e]; exact ck, by rw [e]; exact sim [] [] false ⟨Or.inl rfl, fun _ => rfl⟩ rfl rfl⟩
        split
        · exact bad S5 f (fr4'.tr fr5) s5 e5 f96 ef
        · exact x_fail e5 f96 (bad S5 f (fr4'.tr fr5) s5 e5 f96 ef)
  · rw [if_neg ck, if_neg (by decide)]
    unfold wpX2_fail
    simp only [lt_e]
    rw [hI_ne (by decide), fa2.1 37 10 (by omega), f10, if_neg (by decide), hI_ne (by decide), ct2.hd.1]
    have hd := ct2.hd.2
    exact bad _ (hdp k (lx t k k 0 false)) (fr2.tr (FR.s37.tr FR.s37)) ((hs2.sI _ _ _).sI _ _ _) (hI_self _ _ _ _) (by omega) (Or.inl ⟨ck, rfl⟩)
-- 90.prtext.lean.txt
/-! text: the tape read, the reference's side -/
def GOODm (t : Nat → Nat) (k key : Nat) (c : List Int32) (a : Nat) : Prop := ∃ x r, lx t k k 0 false = x :: r ∧ kf t (lx t k k 0 false) = key ∧ run k (r.map (sy t key)) [] 0 [] [false] 0 true = .inr (c, a)
theorem res_gg {t : Nat → Nat} {k key key' : Nat} {c c' : List Int32} {a a' : Nat} (h : GOODm t k key c a) (h' : GOODm t k key' c' a') : key' = key ∧ c' = c ∧ a' = a := by
  obtain ⟨x, r, e1, e2, e3⟩ := h
  obtain ⟨x', r', e1', e2', e3'⟩ := h'
  have ek : key' = key := e2'.symm.trans e2
  subst ek
  rw [e1] at e1'
  cases e1'
  rw [e3] at e3'
  have := Sum.inr.inj e3'
  cases this
  exact ⟨rfl, rfl, rfl⟩
theorem res_gf {t : Nat → Nat} {k key f : Nat} {c : List Int32} {a : Nat} (h : GOODm t k key c a) (hk : key < 3) (h' : FAIL t k f) : False := by
  obtain ⟨x, r, e1, e2, e3⟩ := h
  rcases h' with ⟨q, -⟩ | ⟨x', r', e1', q, e3'⟩
  · rw [e2] at q; exact q hk
  · rw [e1] at e1'
    cases e1'
    rw [e2, e3] at e3'
    cases e3'
theorem res_ff {t : Nat → Nat} {k f f' : Nat} (h : FAIL t k f) (h' : FAIL t k f') : f' = f := by
  rcases h with ⟨q, e⟩ | ⟨x, r, e1, q, e3⟩
  · rcases h' with ⟨q', e'⟩ | ⟨x', r', e1', q', e3'⟩
    · rw [e, e']
    · exact absurd q' q
  · rcases h' with ⟨q', e'⟩ | ⟨x', r', e1', q', e3'⟩
    · exact absurd q q'
    · rw [e1] at e1'
      cases e1'
      rw [e3] at e3'
      exact (Sum.inl.inj e3').symm
def FX (S S' : HC) : Prop := (∀ r i, r ≠ 77 → r ≠ 78 → r ≠ 79 → ¬ (r = 68 ∧ 8 ≤ i ∧ i ≤ 20) → hI S' r i = hI S r i) ∧ ∀ r i, hR S' r i = hR S r i
theorem FX.tr {S S' S'' : HC} (h : FX S S') (h2 : FX S' S'') : FX S S'' := ⟨fun r i u1 u2 u3 u4 => (h2.1 r i u1 u2 u3 u4).trans (h.1 r i u1 u2 u3 u4), fun r i => (h2.2 r i).trans (h.2 r i)⟩
theorem FX.s68 {S : HC} {i : Nat} {v : Int32} (h : 8 ≤ i ∧ i ≤ 20) : FX S (sI S 68 i v) := ⟨fun r j _ _ _ u => hI_ne (by omega), fun _ _ => rfl⟩
theorem FT.fx {S S' : HC} (h : FT S S') : FX S S' := ⟨fun r i u1 u2 u3 u4 => h.1 r i u1 u2 u3 (by omega), h.2⟩
theorem FX.sh {S S' : HC} (h : FX S S') (hs : SH S) : SH S' := hs.of (fun _ _ => h.2 _ _)
theorem FX.tp {S S' : HC} {t : Nat → Nat} {k : Nat} (h : FX S S') (ht : TPm S t k) : TPm S' t k := ht.ag (fun r i u => h.1 r i (by omega) (by omega) (by omega) (by omega))
theorem r_text {ln : Nat → Nat} {t : Nat → Nat} {k : Nat} {S : HC} {post : Int32 → HC → Prop} (hs : SH S) (hl : LN ln) (ht : TPm S t k) (hk : pKey S) (hb : ∀ S' f, FX S S' → FAIL t k f → hI S' 68 9 = nI f → BX8_text_33 ln post S' 68 0) (hg : ∀ S' key c a, FX S S' → key < 3 → GOODm t k key c a → CDx S' c a → c.length ≤ 96 → hI S' 68 13 = nI key → BX8_text_33 ln post S' 68 1) : wpX8_text ln S 68 post := by
  have h96 := ht.1
  unfold wpX8_text
  rw [lt_e, lt_e]
  have x2 : FX S (sI (sI S 68 8 0) 68 12 (-1)) := (FX.s68 (by decide)).tr (FX.s68 (by decide))
  have e8 : hI (sI (sI S 68 8 0) 68 12 (-1)) 68 8 = 0 := by rw [hI_ne (by decide), hI_self]
  have e12 : hI (sI (sI S 68 8 0) 68 12 (-1)) 68 12 = -1 := hI_self _ _ _ _
  generalize sI (sI S 68 8 0) 68 12 (-1) = S2 at x2 e8 e12
  refine p_go (g := false) (p := 0) (n := k) (x2.sh hs) hl (x2.tp ht) e8 (Nat.zero_le _) (fun u => by cases u) (fun _ j _ _ u => by rw [e12] at u; exact m1_ne' (by omega) u) (by omega) (fun S3 r3 g3 => ?_)
  have x3 := x2.tr g3.ft.fx
  have hs3 := x3.sh hs
  have ht3 := x3.tp ht
  have hk3 : pKey S3 := hk.ag (fun r i u => x3.1 r i (by omega) (by omega) (by omega) (by omega))
  have len := lx_len (t := t) (k := k) k 0 false (Nat.zero_le _)
  refine r_key hs3 hl ht3 hk3 r3 (fun x r e ck => ?_) (fun ck => ?_)
  · have ck0 := ck
    rw [e] at r3 ck len
    rw [List.length_cons] at len
    obtain ⟨⟨a1, a2, a3⟩, -, ⟨c1, c2⟩, tok, n, hn, hr⟩ := id r3
    have hs4 : SH (sI S3 68 13 (nI (kf t (lx t k k 0 false)))) := hs3.sI _ _ _
    refine p_go (g := decide (x.2.2 ≠ 3)) hs4 hl (ht3.ag (fun r i u => hI_ne (by omega))) (by rw [hI_ne (by decide)]; exact a2) tok.1.2 (fun u => by rw [hI_ne (by decide)]; exact c1 (of_decide_eq_true u)) (fun u => by rw [hI_ne (by decide)]; exact c2 (Decidable.not_not.mp (of_decide_eq_false u))) hn (fun S4 r4 g4 => ?_)
    rw [← hr] at r4
    have x4 : FX S S4 := (x3.tr (FX.s68 (by decide))).tr g4.ft.fx
    have hs4' := x4.sh hs
    have ek : hI S4 68 13 = nI (kf t (lx t k k 0 false)) := by rw [g4.1 68 13 (by omega), hI_self]
    rw [if_neg (by decide)]
    unfold wpX8_takesE
    rw [lt_e, lt_e, lt_e, sh68_21 (((hs4'.sI _ _ _).sI _ _ _).sI _ _ _), dn_e, ln79 hl, as_l0 (by decide) (by decide), nb0]
    have mm : MMx t k (kf t (lx t k k 0 false)) (sI (sI (sI (sI S4 68 17 0) 68 18 0) 68 20 0) 79 0 0) r [] 0 [] [false] := by
      refine ⟨⟨r4.ag (fun i u => by rw [hI_row (by decide), hI_ne (by omega), hI_ne (by omega), hI_ne (by omega)]), (x4.tp ht).ag (fun r i u => by rw [hI_row (by omega), hI_ne (by omega), hI_ne (by omega), hI_ne (by omega)]), (((hs4'.sI _ _ _).sI _ _ _).sI _ _ _).sI _ _ _, by rw [hI_row (by decide), hI_ne (by decide), hI_ne (by decide), hI_ne (by decide)]; exact ek⟩, ⟨by rw [hI_row (by decide), hI_ne (by decide), hI_ne (by decide), hI_self]; rfl, fun i hi => absurd hi (by simp), by rw [hI_row (by decide), hI_ne (by decide), hI_self]; rfl⟩, ⟨by rw [hI_row (by decide), hI_self]; rfl, trivial⟩, ?_, trivial⟩
      rw [List.length_nil, hI_self]
      rfl
    have x5 : FX S (sI (sI (sI (sI S4 68 17 0) 68 18 0) 68 20 0) 79 0 0) := (((x4.tr (FX.s68 (by decide))).tr (FX.s68 (by decide))).tr (FX.s68 (by decide))).tr (FT.arr (Or.inr (Or.inr rfl))).fx
    refine ⟨r.length + 1, m_loop hl ck0 (r.length + 1) r _ [] 0 [] false [] 0 true 1 (by omega) rfl mm (by simp; omega) (by simp) rfl (by omega) (fun S6 c' a' f6 e6 cd6 l6 => ?_) (fun S6 f f6 e6 p6 => ?_)⟩
    · rw [if_neg (by decide)]
      refine hg S6 _ c' a' (x5.tr f6.fx) ck0 ⟨x, r, e, rfl, e6⟩ cd6 l6 ?_
      rw [f6.1 68 13 (by decide) (by decide) (by decide) (by omega), hI_row (by decide), hI_ne (by decide), hI_ne (by decide), hI_ne (by decide)]
      exact ek
    · rw [if_pos rfl]
      exact hb S6 f (x5.tr f6.fx) (Or.inr ⟨x, r, e, ck0, e6⟩) p6
  · rw [if_pos rfl]
    exact hb S3 _ x3 (Or.inl ⟨ck, rfl⟩) r3.pos
/-- the code comes to the row of the now -/
theorem r_store {ln : Nat → Nat} {S : HC} {m c : Nat} {post : Int32 → HC → Prop} (hs : SH S) (hl : LN ln) (hm : m < 14) (hc : c ≤ 96) (h17 : hI S 68 17 = nI c) (h4 : hI S 69 4 = nI m) (h : ∀ S', Fl S S' 69 (117 + 96 * m) (117 + 96 * m + c) (fun i => hI S 77 (i - (117 + 96 * m))) → post (nI m) (sI S' 69 4 (nI (m + 1)))) : ∃ n, LX8_text_115 ln post n S 68 (nI m) 0 := by
  have key : ∀ q i S', i + q = c → Fl S S' 69 (117 + 96 * m) (117 + 96 * m + i) (fun i => hI S 77 (i - (117 + 96 * m))) → LX8_text_115 ln post (q + 1) S' 68 (nI m) (nI i) := by
    intro q
    induction q with
    | zero =>
      intro i S' hi hF
      have e : i = c := by omega
      subst e
      rw [LX8_text_115]
      dsimp only
      rw [lt_e, hF.o (by decide), h17, if_pos (nI_le (by omega) (by omega)), sh68_0 (hF.sh hs), dn_e, ln69 hl, al_l4 (by decide) (by decide), hF.x (by omega), h4, lt_e, nI_1, as_l4 (by decide) (by decide)]
      exact h S' hF
    | succ q ih =>
      intro i S' hi hF
      rw [LX8_text_115]
      dsimp only
      rw [lt_e, hF.o (by decide), h17, if_neg (nI_ge (by omega) (by omega)), sh68_0 (hF.sh hs), dn_e, lt_e, lt_e, lt_e, show (96 : Int32) * nI m = nI (96 * m) from pk_mul 96 m, show (117 : Int32) + nI (96 * m) = nI (117 + 96 * m) from nI_add 117 _, nI_add, sh68_16 (hF.sh hs), dn_e, ln77 hl, al_e (by omega) (by decide), ln69 hl, as_e (by omega) (by decide), lt_e, nI_1]
      refine ih (i + 1) _ (by omega) ?_
      have st := hF.step (v := hI S' 77 i) (by omega) (by rw [hF.o (by decide)]; congr 1; omega)
      exact st
  exact ⟨c + 1, key c 0 S (by omega) (Fl.rf _ _ _ _)⟩
-- 91.ptext.lean.txt
/-! step text: one more text, on both sides -/
theorem LT_lt : LT.all (fun q => decide (q.1 < 91)) = true := by decide
theorem RT_lt : RT.all (fun q => decide (q.1 < 91)) = true := by decide
theorem SH.nw {S : HC} {N : Nat} (h : SH S) (hN : 91 ≤ N) : SH (nw S N) := h.of (fun q hq => by
  have h1 := of_decide_eq_true (List.all_eq_true.mp RT_lt q hq)
  show (if q.1 = N then (fun _ => none) else S.2.1 q.1) q.2.1 = _
  rw [if_neg (by omega)]
  rfl)
theorem hI_nw {S : HC} {N r i : Nat} (h : r ≠ N) : hI (nw S N) r i = hI S r i := by
  show (if r = N then (fun _ => 0) else S.1 r) i = _
  rw [if_neg h]
  rfl
theorem hR_nw {S : HC} {N r i : Nat} (h : r ≠ N) : hR (nw S N) r i = hR S r i := by
  show (if r = N then (fun _ => none) else S.2.1 r) i = _
  rw [if_neg h]
  rfl
theorem LN.up {ln : Nat → Nat} {N c : Nat} (h : LN ln) (hN : 91 ≤ N) : LN (va_up ln N c) := fun q hq => by
  have h1 := of_decide_eq_true (List.all_eq_true.mp LT_lt q hq)
  rw [va_up_ne _ _ (by omega)]
  exact h q hq
theorem LAW.up {ln ln' : Nat → Nat} {N N' : Nat} {S S' : HC} {q a t key c : Nat} (h : LAW ln N S q a t key c) (hN : N ≤ N') (e1 : ∀ r i, 91 ≤ r → r < N → hI S' r i = hI S r i) (e2 : ∀ r i, 91 ≤ r → r < N → hR S' r i = hR S r i) (e3 : ∀ r, 91 ≤ r → r < N → ln' r = ln r) (e4 : hI S' a (89 + 2 * t) = hI S a (89 + 2 * t) ∧ hI S' a (90 + 2 * t) = hI S a (90 + 2 * t) ∧ ∀ i, i < 96 → hI S' a (117 + 96 * t + i) = hI S a (117 + 96 * t + i)) : LAW ln' N' S' q a t key c := by
  obtain ⟨⟨a1, a2⟩, a3, ⟨a4, a4', a4''⟩, ⟨a5, a6⟩, a7, a8, a9, a10, a11⟩ := h
  refine ⟨⟨a1, by omega⟩, by rw [e2 _ _ (by omega) a2]; exact a3, ⟨by rw [e3 _ (by omega) (by omega)]; exact a4, a4', a4''⟩, ⟨a5, by rw [e1 _ _ (by omega) a2]; exact a6⟩, by rw [e4.1]; exact a7, by rw [e4.2.1, e1 _ _ (by omega) a2]; exact a8, fun i hi => by rw [e4.2.2 i (by omega), e1 _ _ (by omega) (by omega)]; exact a9 i hi, ?_, fun i hi => by rw [e4.2.2 i (by omega), e1 _ _ (by omega) (by omega)]; exact a11 i hi⟩
  rw [← a10]
  exact wfC_ag c 0 0 (fun i _ hi => e4.2.2 i (by omega))
theorem LR.ag2 {S S' : HC} {b a n : Nat} (h : LR S b a n) (h1 : ∀ r k, b + 1 ≤ r → r ≤ b + 6 → hI S' r k = hI S r k) (h2 : ∀ f, f = 6 ∨ f = 7 ∨ f = 8 ∨ f = 9 → hI S' b f = hI S b f) (h3 : ∀ k, k < 89 → k ≠ 4 → hI S' a k = hI S a k) : LR S' b a n := by
  obtain ⟨a1, a2, a3, a4, a5, a6, a7, a8⟩ := h
  have e : AG n (mf S' a) (mf S a) := fun k hk j hj => h3 _ (by omega) (by omega)
  refine ⟨a1, by rw [h2 6 (by omega)]; exact a2, by rw [h3 _ (by decide) (by decide)]; exact a3, fun k hk j hj => ?_, a5.ag e, by rw [h2 7 (by omega), h3 _ (by decide) (by decide)]; exact a6, by rw [h2 8 (by omega), h3 _ (by decide) (by decide)]; exact a7, by rw [h2 9 (by omega), h3 _ (by decide) (by decide)]; exact a8⟩
  rw [e k hk j hj, ← a4 k hk j hj]
  exact h1 _ _ (by omega) (by omega)
theorem getD_map {c : List Int32} {i : Nat} (h : i < c.length) : (c.map trS).getD i 0 = trS (c.getD i 0) := by
  simp [List.getD, h]
theorem getD_mem {c : List Int32} {i : Nat} (h : i < c.length) : c.getD i 0 ∈ c := by
  simp [List.getD, h]
theorem PI.law {N : Nat} {ln : Nat → Nat} {S S' : HC} {m key lv : Nat} {cc : List Int32} (h : PI N ln S) (hm : m < 14) (h11 : hI S 1 11 = nI m) (hkey : key < 3) (c96 : cc.length ≤ 96) (hg : ∀ v, v ∈ cc → gCd key v) (hwf : wfL (cc.map trS) 0 = some 1) (E1 : ∀ r i, r < N → r ≠ 37 → r ≠ 40 → r ≠ 77 → r ≠ 78 → r ≠ 79 → ¬ (r = 38 ∧ i = 1) → ¬ (r = 1 ∧ i = 11) → ¬ (r = 68 ∧ 7 ≤ i ∧ i ≤ 20) → ¬ (r = 69 ∧ (i = 4 ∨ i = 89 + 2 * m ∨ i = 90 + 2 * m ∨ (117 + 96 * m ≤ i ∧ i < 117 + 96 * m + cc.length))) → hI S' r i = hI S r i) (E2 : hI S' 38 1 = 0 ∧ hI S' 68 7 = 0 ∧ hI S' 1 11 = nI (m + 1) ∧ hI S' 69 4 = nI (m + 1)) (E3 : hI S' 69 (89 + 2 * m) = nI (1000 * key + cc.length) ∧ hI S' 69 (90 + 2 * m) = nI lv ∧ ∀ i, i < cc.length → hI S' 69 (117 + 96 * m + i) = (cc.map trS).getD i 0) (E4 : (∀ i, i < cc.length → hI S' N i = cc.getD i 0) ∧ hI S' (N + 1) 0 = nI key ∧ hI S' (N + 1) 1 = nI lv) (R1 : ∀ r i, r < N → ¬ (r = 8 ∧ i = m) → hR S' r i = hR S r i) (R2 : hR S' 8 m = some (N + 1) ∧ hR S' (N + 1) 2 = some N) : PI (N + 2) (va_up ln N cc.length) S' := by
  obtain ⟨⟨hs, hl, hN1, hN2⟩, ⟨⟨n, hn⟩, hw⟩, ⟨hi1, hi2⟩, b3, b4, b5, b6, b7⟩ := h
  have c1 : 1 ≤ cc.length := by
    cases cc with
    | nil => simp [wfL] at hwf
    | cons x l => simp
  have up : ∀ {q a t key c}, LAW ln N S q a t key c → (hI S' a (89 + 2 * t) = hI S a (89 + 2 * t) ∧ hI S' a (90 + 2 * t) = hI S a (90 + 2 * t) ∧ ∀ i, i < 96 → hI S' a (117 + 96 * t + i) = hI S a (117 + 96 * t + i)) → LAW (va_up ln N cc.length) (N + 2) S' q a t key c := fun u e4 => u.up (by omega) (fun r i u1 u2 => E1 r i u2 (by omega) (by omega) (by omega) (by omega) (by omega) (by omega) (by omega) (by omega) (by omega)) (fun r i u1 u2 => R1 r i u2 (by omega)) (fun r u1 u2 => va_up_ne _ _ (by omega)) e4
  refine ⟨⟨hs.of (fun q hq => ?_), hl.up hN1, by omega, by omega⟩, ⟨⟨n, hn.ag2 (fun r k u1 u2 => E1 r k (by omega) (by omega) (by omega) (by omega) (by omega) (by omega) (by omega) (by omega) (by omega) (by omega)) (fun f u => E1 _ _ (by omega) (by omega) (by omega) (by omega) (by omega) (by omega) (by omega) (by omega) (by omega) (by omega)) (fun k u1 u2 => E1 _ _ (by omega) (by omega) (by omega) (by omega) (by omega) (by omega) (by omega) (by omega) (by omega) (by omega))⟩, ?_⟩, ⟨?_, ?_⟩, ⟨0, by decide, E2.1, E2.2.1, fun j hj => absurd hj (by omega)⟩, b4.ag (fun r k u => E1 r k (by omega) (by omega) (by omega) (by omega) (by omega) (by omega) (by omega) (by omega) (by omega) (by omega)), b5.ag (fun r k u => E1 r k (by omega) (by omega) (by omega) (by omega) (by omega) (by omega) (by omega) (by omega) (by omega) (by omega)), b6.ag (fun r k u => E1 r k (by omega) (by omega) (by omega) (by omega) (by omega) (by omega) (by omega) (by omega) (by omega) (by omega)), b7.ag (fun r k u => E1 r k (by omega) (by omega) (by omega) (by omega) (by omega) (by omega) (by omega) (by omega) (by omega) (by omega))⟩
  · have h1 := of_decide_eq_true (List.all_eq_true.mp RT_lt q hq)
    have h2 := List.all_eq_true.mp RT_lw q hq
    simp at h2
    exact R1 _ _ (by omega) (by omega)
  · obtain ⟨m0, m1, m2, m3, m4⟩ := hw
    have em : m0 = m := (nI_eq (by omega) (by omega)).mp (m2.symm.trans h11)
    subst em
    refine ⟨m0 + 1, by omega, E2.2.2.1, E2.2.2.2, fun t ht => ?_⟩
    by_cases e : t = m0
    · subst e
      refine ⟨N + 1, key, cc.length, R2.1, ⟨by omega, by omega⟩, R2.2, ⟨?_, c1, c96⟩, ⟨hkey, E4.2.1⟩, E3.1, by rw [E3.2.1, E4.2.2], fun i hi => ?_, ?_, fun i hi => ?_⟩
      · show va_up ln N cc.length (N + 1 - 1) = cc.length
        rw [show N + 1 - 1 = N by omega, va_up_self]
      · show _ = trS (hI S' (N + 1 - 1) i)
        rw [show N + 1 - 1 = N by omega, E3.2.2 i hi, E4.1 i hi, getD_map hi]
      · have el : (cc.map trS).length = cc.length := List.length_map _
        rw [← el, wfL_C (cc.map trS) _ 0 0 (fun j hj => by rw [Nat.zero_add]; exact E3.2.2 j (by omega))]
        exact hwf
      · show 0 ≤ hI S' (N + 1 - 1) i ∧ _
        rw [show N + 1 - 1 = N by omega, E4.1 i hi, E3.2.2 i hi, getD_map hi]
        exact hg _ (getD_mem hi)
    · obtain ⟨q, key', c, q1, q2⟩ := m4 t (by omega)
      refine ⟨q, key', c, by rw [R1 _ _ (by omega) (by omega)]; exact q1, up q2 ⟨?_, ?_, fun i hi => ?_⟩⟩
      · exact E1 _ _ (by omega) (by omega) (by omega) (by omega) (by omega) (by omega) (by omega) (by omega) (by omega) (by omega)
      · exact E1 _ _ (by omega) (by omega) (by omega) (by omega) (by omega) (by omega) (by omega) (by omega) (by omega) (by omega)
      · exact E1 _ _ (by omega) (by omega) (by omega) (by omega) (by omega) (by omega) (by omega) (by omega) (by omega) (by omega)
  · rw [E1 0 2 (by omega) (by omega) (by omega) (by omega) (by omega) (by omega) (by omega) (by omega) (by omega) (by omega), E1 68 3 (by omega) (by omega) (by omega) (by omega) (by omega) (by omega) (by omega) (by omega) (by omega) (by omega)]
    exact hi1
  · have o : ∀ k, hI S' 70 k = hI S 70 k := fun k => E1 _ _ (by omega) (by omega) (by omega) (by omega) (by omega) (by omega) (by omega) (by omega) (by omega) (by omega)
    rw [E1 68 3 (by omega) (by omega) (by omega) (by omega) (by omega) (by omega) (by omega) (by omega) (by omega) (by omega)]
    rcases hi2 with q | ⟨q, ⟨n2, hn2⟩, m0, m1, m2, m3, m4⟩
    · exact Or.inl q
    · refine Or.inr ⟨q, ⟨n2, hn2.ag (fun r k u1 u2 => E1 r k (by omega) (by omega) (by omega) (by omega) (by omega) (by omega) (by omega) (by omega) (by omega) (by omega)) o⟩, m0, m1, by rw [E1 9 11 (by omega) (by omega) (by omega) (by omega) (by omega) (by omega) (by omega) (by omega) (by omega) (by omega)]; exact m2, by rw [o]; exact m3, fun t ht => ?_⟩
      obtain ⟨q', key', c, q1, q2⟩ := m4 t ht
      exact ⟨q', key', c, by rw [R1 _ _ (by omega) (by omega)]; exact q1, up q2 ⟨o _, o _, fun i _ => o _⟩⟩
-- 92.ptext2.lean.txt
/-! step text -/
theorem kd_odd {N : Nat} (h1 : 91 ≤ N) (h2 : N % 2 = 1) : kd N = 9 ∧ kd (N + 1) = 1 := by
  unfold kd
  rw [if_neg (by omega), if_pos h2, if_neg (by omega), if_neg (by omega)]
  exact ⟨rfl, rfl⟩
theorem c_law {N : Nat} {ln : Nat → Nat} {S : HC} {c : Nat} {key lv : Int32} {post : Nat → Nat → (Nat → Nat) → HC → Prop} (hs : SH S) (hl : LN ln) (h1 : 91 ≤ N) (h2 : N % 2 = 1) (hc : c ≤ 96) (h6 : hI S 37 6 = nI c) (h4 : hI S 37 4 = key) (h7 : hI S 37 7 = lv) (h : ∀ S', (∀ r i, r < N → hI S' r i = hI S r i) → (∀ r i, r < N → hR S' r i = hR S r i) → (∀ i, i < c → hI S' N i = hI S 40 i) → hI S' (N + 1) 0 = key → hI S' (N + 1) 1 = lv → hR S' (N + 1) 2 = some N → post (N + 1) (N + 2) (va_up ln N c) S') : wpX2_lawRead N ln S 37 post := by
  have kd := kd_odd h1 h2
  unfold wpX2_lawRead
  rw [lt_e, h6]
  refine ⟨kd.1, ⟨nI_pos (by omega), by rw [nI_clamp (by omega)]; exact hc⟩, ?_⟩
  rw [nI_clamp (by omega)]
  have lN : va_up ln N c N = c := va_up_self _ _ _
  have hl' : LN (va_up ln N c) := hl.up h1
  have hs1 : SH (nw S N) := hs.nw h1
  have key2 : ∀ q i S', i + q = c → Fl (nw S N) S' N 0 i (hI S 40) → LX2_lawRead_9 post (q + 1) (N + 1) (va_up ln N c) S' 37 N (nI i) := by
    intro q
    induction q with
    | zero =>
      intro i S' hi hF
      have e : i = c := by omega
      subst e
      have e6 : hI S' 37 6 = nI i := by rw [hF.o (by omega), hI_nw (by omega)]; exact h6
      rw [LX2_lawRead_9]
      dsimp only
      rw [lt_e, e6, if_pos (nI_le (by omega) (by omega))]
      unfold BX2_lawRead_38
      refine ⟨kd.2, ?_⟩
      have e4 : hI (nw S' (N + 1)) 37 4 = key := by rw [hI_nw (by omega), hF.o (by omega), hI_nw (by omega)]; exact h4
      have e7 : hI (nw S' (N + 1)) 37 7 = lv := by rw [hI_nw (by omega), hF.o (by omega), hI_nw (by omega)]; exact h7
      dsimp only
      rw [lt_e, e4, lt_e, e7]
      unfold wpX1_init
      rw [lt_e, lt_e, lt_e]
      refine h _ (fun r j u => ?_) (fun r j u => ?_) (fun j u => ?_) ?_ ?_ ?_
      · rw [hI_sR, hI_row (by omega), hI_row (by omega), hI_nw (by omega), hF.o (by omega), hI_nw (by omega)]
      · rw [hR_sR, if_neg (by omega), hR_sI, hR_sI, hR_nw (by omega), hF.2, hR_nw (by omega)]
      · rw [hI_sR, hI_row (by omega), hI_row (by omega), hI_nw (by omega), hF.i (by omega) u]
      · rw [hI_sR, hI_ne (by omega), hI_self]
      · rw [hI_sR, hI_self]
      · rw [hR_sR, if_pos ⟨rfl, rfl⟩]
    | succ q ih =>
      intro i S' hi hF
      have e6 : hI S' 37 6 = nI c := by rw [hF.o (by omega), hI_nw (by omega)]; exact h6
      rw [LX2_lawRead_9]
      dsimp only
      rw [lt_e, e6, if_neg (nI_ge (by omega) (by omega)), if_neg (show ¬ (96 : Int32) ≤ nI i from nI_ge (b := 96) (by omega) (by decide)), sh37_5 (hF.sh hs1), dn_e, ln40 hl', al_e (by omega) (by decide), lN, as_e (by omega) (by omega), lt_e, nI_1]
      exact ih (i + 1) _ (by omega) (hF.step (by omega) (by rw [hF.o (by omega), hI_nw (by omega)]))
  exact ⟨c + 1, key2 c 0 _ (by omega) (Fl.rf _ _ _ _)⟩
theorem s_text {N : Nat} {ln : Nat → Nat} {S : HC} {R : Int32 → Int32 → Nat → (Nat → Nat) → HC → Prop} (h : PI N ln S) (hR0 : ∀ v N' ln' S', PI N' ln' S' → R v v N' ln' S') : wpX7_text N ln S 0 fun v N1 ln1 S1 => wpX8_text ln1 S1 68 fun w S2 => R v w N1 ln1 S2 := by
  obtain ⟨⟨hs, hl, hN1, hN2⟩, ⟨-, hw⟩, -, ⟨k, k1, k2, k3, k4⟩, -, -, -, b7⟩ := id h
  obtain ⟨t, ht⟩ : ∃ t : Nat → Nat, ∀ j, j < k → hI S 74 j = nI (t j) ∧ t j < 256 := ⟨fun j => ixN (hI S 74 j), fun j hj => by
    obtain ⟨c, hc, e⟩ := (k4 j hj).2
    dsimp only
    rw [e, ixN_e (by omega)]
    exact ⟨rfl, hc⟩⟩
  have tp : TP S t k := ⟨k1, k2, fun j hj => ⟨(k4 j hj).1.trans (ht j hj).1, (ht j hj).2⟩⟩
  have tm : TPm S t k := ⟨k1, k3, ht⟩
  obtain ⟨m, m1, m2, m3, m4⟩ := hw
  have P0 : PI N ln (sI (sI S 38 1 0) 68 7 0) := h.tap (fun _ _ => rfl) (fun r i u => by rw [hI_ne (by omega), hI_ne (by omega)]) ⟨0, by decide, by rw [hI_row (by decide), hI_self]; rfl, hI_self _ _ _ _, fun j hj => absurd hj (by omega)⟩
  -- what stays when nothing was added
  have stay : ∀ S1 S3, FR S S1 → FX (sI S1 38 1 0) S3 → PI N ln (sI S3 68 7 0) := fun S1 S3 f1 x3 => P0.sm ⟨fun r i u => by
    unfold sc at u
    by_cases e : r = 68 ∧ i = 7
    · rw [e.1, e.2, hI_self, hI_self]
    · rw [hI_ne e, hI_ne e, x3.1 r i (by omega) (by omega) (by omega) (by omega)]
      by_cases e2 : r = 38 ∧ i = 1
      · rw [e2.1, e2.2, hI_self, hI_self]
      · rw [hI_ne e2, hI_ne e2, f1.1 r i (by omega) (by omega)], fun r i _ _ _ => by rw [hR_sI, x3.2, hR_sI, f1.2]; rfl⟩
  unfold wpX7_text
  rw [sh0_5 hs, dn_e]
  refine c_read hs hl tp (fun S1 key cc lv f1 s1 hk3 gd ⟨e10, e4, e7⟩ ⟨e6, e40⟩ hg hwf c96 => ?_) (fun S1 f f1 s1 e10 f96 fl => ?_)
  · have s2 : SH (sI S1 38 1 0) := s1.sI _ _ _
    have o2 : ∀ r i, r ≠ 37 → r ≠ 40 → ¬ (r = 38 ∧ i = 1) → hI (sI S1 38 1 0) r i = hI S r i := fun r i u1 u2 u3 => by rw [hI_ne u3, f1.1 r i u1 u2]
    have e11 : hI (sI S1 38 1 0) 1 11 = nI m := by rw [o2 1 11 (by decide) (by decide) (by omega)]; exact m2
    rw [sh0_5 s1, dn_e, sh37_0 s1, dn_e, lt_e, sh0_5 s2, dn_e, lt_e, hI_row (by decide), e10, if_pos (by decide), sh0_0 s2, dn_e, lt_e, e11, if_neg (nI_pos (by omega)), dn_e, lt_e, e11]
    by_cases cm : m < 14
    · rw [if_pos (show nI m < 14 from nI_lt (b := 14) cm (by decide)), dn_e, lt_e, e11, dn_e, sh1_10 s2, dn_e, dn_e]
      refine c_law (key := nI key) (lv := nI lv) s2 hl hN1 hN2 c96 (by rw [hI_row (by decide)]; exact e6) (by rw [hI_row (by decide)]; exact e4) (by rw [hI_row (by decide)]; exact e7) (fun S3 i3 r3 n3 k30 k31 r32 => ?_)
      have hl' : LN (va_up ln N cc.length) := hl.up hN1
      have s3 : SH S3 := s2.of (fun q hq => by
        have h1 := of_decide_eq_true (List.all_eq_true.mp RT_lt q hq)
        exact r3 _ _ (by omega))
      rw [ln8 hl', as_e cm (by decide)]
      have s4 : SH (sR S3 8 m (some (N + 1))) := s3.lw (b := 1) (Or.inl rfl) (fun r i u => by rw [hR_sR, if_neg (fun v => u v.1)])
      rw [sh0_0 s4, dn_e, lt_e, nI_1, lt_e]
      have s5 : SH (sI (sR S3 8 m (some (N + 1))) 1 11 (nI (m + 1))) := s4.sI _ _ _
      have o5 : ∀ r i, r < N → r ≠ 37 → r ≠ 40 → ¬ (r = 38 ∧ i = 1) → ¬ (r = 1 ∧ i = 11) → hI (sI (sR S3 8 m (some (N + 1))) 1 11 (nI (m + 1))) r i = hI S r i := fun r i u0 u1 u2 u3 u4 => by rw [hI_ne u4, hI_sR, i3 r i u0, o2 r i u1 u2 u3]
      refine r_text s5 hl' (tm.ag (fun r i u => o5 r i (by omega) (by omega) (by omega) (by omega) (by omega))) (b7.ag (fun r i u => o5 r i (by omega) (by omega) (by omega) (by omega) (by omega))) (fun S6 f x6 fl _ => absurd fl (fun u => res_gf (c := cc.map trS) gd hk3 u)) (fun S6 key' c' a' x6 hk' gd' cd6 l6 e13 => ?_)
      obtain ⟨q1, q2, q3⟩ := res_gg (c := cc.map trS) gd gd'
      subst q1
      subst q2
      subst q3
      have el : (cc.map trS).length = cc.length := List.length_map _
      have s6 := x6.sh s5
      have s7 : SH (sI S6 68 7 0) := s6.sI _ _ _
      have e69 : hI (sI S6 68 7 0) 69 4 = nI m := by rw [hI_row (by decide), x6.1 69 4 (by decide) (by decide) (by decide) (by omega), o5 69 4 (by omega) (by omega) (by omega) (by omega) (by omega)]; exact m3
      unfold BX8_text_33
      rw [lt_e, if_neg (by decide), sh68_0 s7, dn_e, ln69 hl', al_l4 (by decide) (by decide), e69, if_neg (show ¬ nI m = 14 from fun u => by have := (nI_eq (b := 14) (by omega) (by decide)).mp u; omega), dn_e, ln69 hl', al_l4 (by decide) (by decide), e69, dn_e]
      simp only [lt_e]
      rw [show (2 : Int32) * nI m = nI (2 * m) from pk_mul 2 m, show (89 : Int32) + nI (2 * m) = nI (89 + 2 * m) from nI_add 89 _, hI_ne (by decide), e13, hI_ne (by decide), cd6.1, el, show (1000 : Int32) * nI key' = nI (1000 * key') from pk_mul 1000 _, nI_add, ln69 hl', as_e (by omega) (by decide), sh68_0 (s7.sI _ _ _), dn_e, nI_1, hI_row (by decide), hI_ne (by decide), cd6.2.2, ln69 hl', as_e (by omega) (by decide)]
      have s9 : SH (sI (sI (sI S6 68 7 0) 69 (89 + 2 * m) (nI (1000 * key' + cc.length))) 69 (89 + 2 * m + 1) (nI a')) := (s7.sI _ _ _).sI _ _ _
      refine r_store s9 hl' cm c96 (by rw [hI_row (by decide), hI_row (by decide), hI_ne (by decide), cd6.1, el]) (by rw [hI_ne (by omega), hI_ne (by omega)]; exact e69) (fun S10 f10 => ?_)
      have n6 : ∀ r i, r = N ∨ r = N + 1 → hI S6 r i = hI S3 r i := fun r i u => by rw [x6.1 r i (by omega) (by omega) (by omega) (by omega), hI_row (by omega), hI_sR]
      have a10 : ∀ r i, r ≠ 69 → hI (sI S10 69 4 (nI (m + 1))) r i = hI (sI S6 68 7 0) r i := fun r i u => by rw [hI_row u, f10.o u, hI_row u, hI_row u]
      have b10 : ∀ i, i ≠ 4 → i ≠ 89 + 2 * m → i ≠ 90 + 2 * m → ¬ (117 + 96 * m ≤ i ∧ i < 117 + 96 * m + cc.length) → hI (sI S10 69 4 (nI (m + 1))) 69 i = hI S6 69 i := fun i u1 u2 u3 u4 => by rw [hI_ne (by omega), f10.x u4, hI_ne (by omega), hI_ne (by omega), hI_row (by decide)]
      refine hR0 _ _ _ _ (h.law (m := m) (key := key') (lv := a') (cc := cc) cm m2 hk3 c96 hg hwf (fun r i u0 u1 u2 u3 u4 u5 u6 u7 u8 u9 => ?_) ⟨?_, ?_, ?_, hI_self _ _ _ _⟩ ⟨?_, ?_, fun i hi => ?_⟩ ⟨fun i hi => ?_, ?_, ?_⟩ (fun r i u0 u1 => ?_) ⟨?_, ?_⟩)
      · by_cases e : r = 69
        · subst e
          rw [b10 i (by omega) (by omega) (by omega) (by omega), x6.1 69 i (by decide) (by decide) (by decide) (by omega), o5 69 i u0 u1 u2 u6 u7]
        · rw [a10 r i e, hI_ne (by omega), x6.1 r i u3 u4 u5 (by omega), o5 r i u0 u1 u2 u6 u7]
      · rw [a10 _ _ (by decide), hI_row (by decide), x6.1 38 1 (by decide) (by decide) (by decide) (by omega), hI_row (by decide), hI_sR, i3 38 1 (by omega), hI_self]
      · rw [a10 _ _ (by decide), hI_self]
      · rw [a10 _ _ (by decide), hI_row (by decide), x6.1 1 11 (by decide) (by decide) (by decide) (by omega), hI_self]
      · rw [hI_ne (by omega), f10.x (by omega), hI_ne (by omega), hI_self]
      · rw [hI_ne (by omega), f10.x (by omega), show 90 + 2 * m = 89 + 2 * m + 1 by omega, hI_self]
      · rw [hI_ne (by omega), f10.i (by omega) (by omega), hI_row (by decide), hI_row (by decide), hI_row (by decide), show 117 + 96 * m + i - (117 + 96 * m) = i by omega]
        exact cd6.2.1 i (by omega)
      · rw [a10 _ _ (by omega), hI_row (by omega), n6 N i (Or.inl rfl), n3 i hi, hI_row (by decide)]
        exact e40 i hi
      · rw [a10 _ _ (by omega), hI_row (by omega), n6 _ _ (Or.inr rfl)]
        exact k30
      · rw [a10 _ _ (by omega), hI_row (by omega), n6 _ _ (Or.inr rfl)]
        exact k31
      · rw [hR_sI, f10.2, hR_sI, hR_sI, hR_sI, x6.2, hR_sI, hR_sR, if_neg u1, r3 r i u0, hR_sI, f1.2]
      · rw [hR_sI, f10.2, hR_sI, hR_sI, hR_sI, x6.2, hR_sI, hR_sR, if_pos ⟨rfl, rfl⟩]
      · rw [hR_sI, f10.2, hR_sI, hR_sI, hR_sI, x6.2, hR_sI, hR_sR, if_neg (by omega)]
        exact r32
    · have em : m = 14 := by omega
      subst em
      rw [if_neg (by decide)]
      unfold BX7_text_61
      refine r_text s2 hl (tm.ag (fun r i u => o2 r i (by omega) (by omega) (by omega))) (b7.ag (fun r i u => o2 r i (by omega) (by omega) (by omega))) (fun S6 f x6 fl _ => absurd fl (fun u => res_gf (c := cc.map trS) gd hk3 u)) (fun S6 key' c' a' x6 hk' gd' cd6 l6 e13 => ?_)
      have s6 := x6.sh s2
      have e69 : hI (sI S6 68 7 0) 69 4 = nI 14 := by rw [hI_row (by decide), x6.1 69 4 (by decide) (by decide) (by decide) (by omega), o2 69 4 (by omega) (by omega) (by omega)]; exact m3
      unfold BX8_text_33
      rw [lt_e, if_neg (by decide), sh68_0 (s6.sI _ _ _), dn_e, ln69 hl, al_l4 (by decide) (by decide), e69, if_pos (by decide)]
      exact hR0 _ _ _ _ (stay S1 S6 f1 x6)
  · have s2 : SH (sI S1 38 1 0) := s1.sI _ _ _
    have o2 : ∀ r i, r ≠ 37 → r ≠ 40 → ¬ (r = 38 ∧ i = 1) → hI (sI S1 38 1 0) r i = hI S r i := fun r i u1 u2 u3 => by rw [hI_ne u3, f1.1 r i u1 u2]
    rw [sh0_5 s1, dn_e, sh37_0 s1, dn_e, lt_e, sh0_5 s2, dn_e, lt_e, hI_row (by decide), e10, if_neg (nI_pos (by omega)), dn_e, lt_e, hI_row (by decide), e10, lt_e]
    refine r_text s2 hl (tm.ag (fun r i u => o2 r i (by omega) (by omega) (by omega))) (b7.ag (fun r i u => o2 r i (by omega) (by omega) (by omega))) (fun S6 f' x6 fl' p6 => ?_) (fun S6 key' c' a' x6 hk' gd' cd6 l6 e13 => absurd fl (fun u => res_gf gd' hk' u))
    have ef := res_ff fl fl'
    subst ef
    unfold BX8_text_33
    rw [lt_e, if_pos rfl, lt_e, hI_ne (by decide), p6, lt_e]
    exact hR0 _ _ _ _ (stay S1 S6 f1 x6)
