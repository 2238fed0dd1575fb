/-! text: the class's reader, its helpers -/
def CCx (t : Nat → Nat) (k key : Nat) (S : HC) (ts : List (Nat × Nat × Nat)) (cc : List Int32) (lv p nn : Nat) : Prop := (CT t k S ts ∧ TP S t k ∧ SH S) ∧ (hI S 37 10 = -1 ∧ hI S 37 4 = nI key) ∧ (hI S 37 6 = nI cc.length ∧ ∀ i, i < cc.length → hI S 40 i = cc.getD i 0) ∧ hI S 37 7 = nI lv ∧ hI S 37 8 = nI p ∧ hI S 37 9 = nI nn
def FR (S S' : HC) : Prop := (∀ r i, r ≠ 37 → r ≠ 40 → hI S' r i = hI S r i) ∧ ∀ r i, hR S' r i = hR S r i
theorem FR.rf (S : HC) : FR S S := ⟨fun _ _ _ _ => rfl, fun _ _ => rfl⟩
theorem FR.tr {S S' S'' : HC} (h : FR S S') (h2 : FR S' S'') : FR S S'' := ⟨fun r i u1 u2 => (h2.1 r i u1 u2).trans (h.1 r i u1 u2), fun r i => (h2.2 r i).trans (h.2 r i)⟩
theorem FR.s37 {S : HC} {i : Nat} {v : Int32} : FR S (sI S 37 i v) := ⟨fun r j u _ => hI_row u, fun _ _ => rfl⟩
theorem FA.fr {S S' : HC} (h : FA S S') : FR S S' := ⟨fun r i u _ => h.1 r i (fun v => u v.1), h.2⟩
theorem CT.ag {t : Nat → Nat} {k : Nat} {S S' : HC} {ts : List (Nat × Nat × Nat)} (h : CT t k S ts) (e : ∀ i, i = 1 ∨ i = 2 ∨ i = 3 → hI S' 37 i = hI S 37 i) : CT t k S' ts := by
  cases ts with
  | nil => exact ⟨by rw [e 1 (by omega)]; exact h.1, by rw [e 2 (by omega)]; exact h.2⟩
  | cons x r => exact ⟨⟨by rw [e 1 (by omega)]; exact h.1.1, by rw [e 2 (by omega)]; exact h.1.2.1, by rw [e 3 (by omega)]; exact h.1.2.2⟩, h.2⟩
def hdp (k : Nat) : List (Nat × Nat × Nat) → Nat
  | [] => k
  | x :: _ => x.1
theorem CT.hd {t : Nat → Nat} {k : Nat} {S : HC} {ts : List (Nat × Nat × Nat)} (h : CT t k S ts) : hI S 37 2 = nI (hdp k ts) ∧ hdp k ts ≤ k := by
  cases ts with
  | nil => exact ⟨h.2, Nat.le_refl _⟩
  | cons x r => exact ⟨h.1.2.1, by have := h.2.1.1; simp only [hdp]; omega⟩
theorem c_adv {ln : Nat → Nat} {t : Nat → Nat} {k key : Nat} {S : HC} {x : Nat × Nat × Nat} {r : List (Nat × Nat × Nat)} {cc : List Int32} {lv p nn : Nat} {post : HC → Prop} (hl : LN ln) (h : CCx t k key S (x :: r) cc lv p nn) (hx : x.2.2 ≠ 4) (hp : ∀ S', CCx t k key S' r cc lv p nn → FR S S' → post S') : wpX2_advance ln S 37 post := by
  obtain ⟨⟨⟨⟨a1, a2, a3⟩, tok, n, hn, hr⟩, ht, hs⟩, ⟨b1, b2⟩, ⟨c1, c2⟩, d1, d2, d3⟩ := h
  have s3 := tok.2.1
  have fl : decide (x.2.2 = 1 ∨ x.2.2 = 2) = decide (x.2.2 ≠ 3) := by
    rcases (show x.2.2 = 1 ∨ x.2.2 = 2 ∨ x.2.2 = 3 by omega) with e | e | e <;> rw [e] <;> decide
  refine p_adv hs hl ht a1 (by omega) a3 tok.1.2 hn (fun S' hc hf => ?_)
  rw [fl, ← hr] at hc
  exact hp S' ⟨⟨hc, hf.tp ht, hf.sh hs⟩, ⟨by rw [hf.1 37 10 (by omega)]; exact b1, by rw [hf.1 37 4 (by omega)]; exact b2⟩, ⟨by rw [hf.1 37 6 (by omega)]; exact c1, fun i hi => by rw [hf.1 40 i (by omega)]; exact c2 i hi⟩, by rw [hf.1 37 7 (by omega)]; exact d1, by rw [hf.1 37 8 (by omega)]; exact d2, by rw [hf.1 37 9 (by omega)]; exact d3⟩ hf.fr
theorem c_write {ln : Nat → Nat} {t : Nat → Nat} {k key : Nat} {S : HC} {ts : List (Nat × Nat × Nat)} {cc : List Int32} {lv p nn : Nat} {v : Int32} {post : HC → Prop} (hl : LN ln) (h : CCx t k key S ts cc lv p nn) (h96 : cc.length < 96) (hp : ∀ S', CCx t k key S' ts (cc ++ [v]) lv p nn → FR S S' → post S') : wpX2_write ln S 37 v post := by
  obtain ⟨⟨ct, ht, hs⟩, ⟨b1, b2⟩, ⟨c1, c2⟩, d1, d2, d3⟩ := h
  unfold wpX2_write
  rw [lt_e, c1, if_neg (nI_pos (by omega)), lt_e, if_neg (show ¬ (96 : Int32) ≤ nI cc.length from nI_ge (b := 96) h96 (by decide)), sh37_5 hs, dn_e, lt_e, ln40 hl, as_e h96 (by decide), lt_e, hI_row (by decide), c1, lt_e, nI_1, lt_e]
  have e : ∀ i, i ≠ 6 → hI (sI (sI S 40 cc.length v) 37 6 (nI (cc.length + 1))) 37 i = hI S 37 i := fun i u => by rw [hI_ne (by omega), hI_row (by decide)]
  refine hp _ ⟨⟨ct.ag (fun i u => e i (by omega)), ht.ag (fun r i u => by rw [hI_row (by omega), hI_row (by omega)]), (hs.sI _ _ _).sI _ _ _⟩, ⟨by rw [e _ (by decide)]; exact b1, by rw [e _ (by decide)]; exact b2⟩, ⟨by rw [hI_self, List.length_append]; rfl, fun i hi => ?_⟩, by rw [e _ (by decide)]; exact d1, by rw [e _ (by decide)]; exact d2, by rw [e _ (by decide)]; exact d3⟩ ⟨fun r i u1 u2 => by rw [hI_row u1, hI_row u2], fun _ _ => rfl⟩
  rw [hI_row (by decide)]
  rw [List.length_append] at hi
  have hi2 : i < cc.length + 1 := hi
  by_cases q : i = cc.length
  · rw [q, hI_self]
    simp [List.getD, List.getElem?_append]
  · rw [hI_ne (by omega), c2 i (by omega)]
    simp [List.getD, List.getElem?_append, show i < cc.length by omega]
theorem x_write {ln : Nat → Nat} {S : HC} {v : Int32} {post : HC → Prop} (hs : SH S) (hl : LN ln) (hp : ∀ S', FR S S' → hI S' 37 10 = hI S 37 10 → SH S' → post S') : wpX2_write ln S 37 v post := by
  unfold wpX2_write
  rw [lt_e, lt_e]
  by_cases c1 : hI S 37 6 < 0
  · rw [if_pos c1]; exact hp S (FR.rf S) rfl hs
  rw [if_neg c1]
  by_cases c2 : 96 ≤ hI S 37 6
  · rw [if_pos c2]; exact hp S (FR.rf S) rfl hs
  rw [if_neg c2, sh37_5 hs, dn_e, lt_e]
  obtain ⟨j, hj, ej⟩ := ge_of (x := hI S 37 6) (n := 96) (by decide) ⟨Int32.not_lt.mp c1, Int32.not_le.mp c2⟩
  rw [ej, ln40 hl, as_e hj (by decide), lt_e, lt_e, lt_e]
  exact hp _ ⟨fun r i u1 u2 => by rw [hI_row u1, hI_row u2], fun _ _ => rfl⟩ (by rw [hI_ne (by decide), hI_row (by decide)]) ((hs.sI _ _ _).sI _ _ _)
def lvl (t : Nat → Nat) : List (Nat × Nat × Nat) → Int32
  | [] => -1
  | x :: _ => if x.2.2 = 3 ∧ opL (t x.1) < 9 then nI (opL (t x.1)) else -1
theorem opL_out {b : Nat} (h : ¬ opL b < 9) : b ≠ 124 ∧ b ≠ 38 ∧ b ≠ 60 ∧ b ≠ 61 ∧ b ≠ 62 ∧ b ≠ 43 ∧ b ≠ 45 ∧ b ≠ 42 ∧ b ≠ 47 := by
  refine ⟨?_, ?_, ?_, ?_, ?_, ?_, ?_, ?_, ?_⟩ <;> (intro e; subst e; exact h (by decide))
theorem c_level {ln : Nat → Nat} {t : Nat → Nat} {k key : Nat} {S : HC} {ts : List (Nat × Nat × Nat)} {cc : List Int32} {lv p nn : Nat} {post : Int32 → HC → Prop} (hl : LN ln) (h : CCx t k key S ts cc lv p nn) : wpX2_levelHere ln S 37 post = post (lvl t ts) S := by
  obtain ⟨⟨ct, ht, hs⟩, -⟩ := h
  unfold wpX2_levelHere BX2_levelHere_108 BX2_levelHere_110 BX2_levelHere_112
  cases ts with
  | nil => rw [lt_e, ct.1, if_neg (by decide)]; rfl
  | cons x r =>
    obtain ⟨⟨a1, a2, a3⟩, tok, -⟩ := ct
    have h96 := ht.1
    have hq : x.1 < k := by have := tok.1; omega
    have b := (ht.2.2 x.1 hq).2
    have s4 := tok.2.1
    rw [lt_e, a1, lvl]
    by_cases c : x.2.2 = 3
    · rw [if_pos (by rw [c]; rfl), sh37_0 hs, dn_e, lt_e, a2, p_at hs hl ht (by omega), if_pos hq]
      by_cases c2 : opL (t x.1) < 9
      · rw [if_pos (show x.2.2 = 3 ∧ opL (t x.1) < 9 from ⟨c, c2⟩)]
        rcases opL_in c2 with e | e | e | e | e | e | e | e | e <;> rw [e] <;> rfl
      · rw [if_neg (show ¬ (x.2.2 = 3 ∧ opL (t x.1) < 9) from fun u => c2 u.2)]
        obtain ⟨o1, o2, o3, o4, o5, o6, o7, o8, o9⟩ := opL_out c2
        have ne : ∀ n : Nat, n < 256 → t x.1 ≠ n → ¬ nI (t x.1) = nI n := fun n hn u v => u ((nI_eq (by omega) (by omega)).mp v)
        rw [if_neg (show ¬ nI (t x.1) = 38 from ne 38 (by decide) o2), if_neg (show ¬ nI (t x.1) = 42 from ne 42 (by decide) o8), if_neg (show ¬ nI (t x.1) = 43 from ne 43 (by decide) o6), if_neg (show ¬ nI (t x.1) = 45 from ne 45 (by decide) o7), if_neg (show ¬ nI (t x.1) = 47 from ne 47 (by decide) o9), if_neg (show ¬ nI (t x.1) = 60 from ne 60 (by decide) o3), if_neg (show ¬ nI (t x.1) = 61 from ne 61 (by decide) o4), if_neg (show ¬ nI (t x.1) = 62 from ne 62 (by decide) o5), if_neg (show ¬ nI (t x.1) = 124 from ne 124 (by decide) o1)]
    · rw [if_neg (show ¬ nI x.2.2 = 3 from fun u => c ((nI_eq (b := 3) (by omega) (by decide)).mp u)), if_neg (show ¬ (x.2.2 = 3 ∧ opL (t x.1) < 9) from fun u => c u.1)]
theorem c_sign {ln : Nat → Nat} {t : Nat → Nat} {k key : Nat} {S : HC} {x : Nat × Nat × Nat} {r : List (Nat × Nat × Nat)} {cc : List Int32} {lv p nn c : Nat} {post : Int32 → HC → Prop} (hl : LN ln) (h : CCx t k key S (x :: r) cc lv p nn) (hc : c < 256) : wpX2_isSign ln S 37 (nI c) post = post (bI (x.2.2 = 3 ∧ t x.1 = c)) S := by
  obtain ⟨⟨⟨⟨a1, a2, a3⟩, tok, -⟩, ht, hs⟩, -⟩ := h
  have h96 := ht.1
  have hq : x.1 < k := by have := tok.1; omega
  have b := (ht.2.2 x.1 hq).2
  have s4 := tok.2.1
  unfold wpX2_isSign BX2_isSign_27
  simp only [rb_e0, rb_e1]
  rw [lt_e, a1]
  by_cases c1 : x.2.2 = 3
  · rw [if_pos (by rw [c1]; rfl), sh37_0 hs, dn_e, lt_e, a2, p_at hs hl ht (by omega), if_pos hq]
    by_cases c2 : t x.1 = c
    · rw [if_pos (by rw [c2]), bI_t ⟨c1, c2⟩]
    · rw [if_neg (fun u => c2 ((nI_eq (by omega) (by omega)).mp u)), bI_f (fun u => c2 u.2)]
  · rw [if_neg (show ¬ nI x.2.2 = 3 from fun u => c1 ((nI_eq (b := 3) (by omega) (by decide)).mp u)), bI_f (fun u => c1 u.1)]
theorem c_sign0 {ln : Nat → Nat} {t : Nat → Nat} {k key : Nat} {S : HC} {cc : List Int32} {lv p nn : Nat} {c : Int32} {post : Int32 → HC → Prop} (h : CCx t k key S [] cc lv p nn) : wpX2_isSign ln S 37 c post = post 0 S := by
  unfold wpX2_isSign BX2_isSign_27
  rw [lt_e, h.1.1.1, if_neg (by decide), rb_e0]
theorem c_fail {ln : Nat → Nat} {t : Nat → Nat} {k key : Nat} {S : HC} {ts : List (Nat × Nat × Nat)} {cc : List Int32} {lv p nn : Nat} {post : HC → Prop} (h : CCx t k key S ts cc lv p nn) (hp : ∀ S', FR S S' → hI S' 37 10 = nI (hdp k ts) → SH S' → post S') : wpX2_fail ln S 37 post := by
  obtain ⟨⟨ct, ht, hs⟩, ⟨b1, b2⟩, -⟩ := h
  unfold wpX2_fail
  rw [lt_e, b1, if_neg (by decide), lt_e, ct.hd.1, lt_e]
  exact hp _ FR.s37 (hI_self _ _ _ _) (hs.sI _ _ _)
theorem x_fail {ln : Nat → Nat} {S : HC} {f : Nat} {post : HC → Prop} (h : hI S 37 10 = nI f) (hf : f ≤ 96) (hp : post S) : wpX2_fail ln S 37 post := by
  unfold wpX2_fail
  rw [lt_e, h, if_pos (nI_pos' (by omega))]
  exact hp
/-- a NUMBER, the class's side -/
theorem c_number {ln : Nat → Nat} {t : Nat → Nat} {k key : Nat} {S : HC} {x : Nat × Nat × Nat} {r : List (Nat × Nat × Nat)} {cc : List Int32} {lv p nn : Nat} {post : Int32 → HC → Prop} (hl : LN ln) (h : CCx t k key S (x :: r) cc lv p nn) (hx : x.2.2 = 2) (hp : post (if x.2.1 - x.1 ≤ 4 then nI (nmF t x.1 (x.2.1 - x.1)) else -1) S) : wpX2_numberHere ln S 37 post := by
  obtain ⟨⟨⟨⟨a1, a2, a3⟩, tok, -⟩, ht, hs⟩, -⟩ := h
  have h96 := ht.1
  have hq := tok.1
  unfold wpX2_numberHere
  rw [lt_e, a3, lt_e, a2, lt_e, pk_sub (by omega)]
  by_cases c : x.2.1 - x.1 ≤ 4
  · rw [if_pos c] at hp
    rw [if_pos (show nI (x.2.1 - x.1) ≤ 4 from nI_le (b := 4) c (by decide)), lt_e]
    have key : ∀ m j, j + m = x.2.1 - x.1 → LX2_numberHere_22 ln post (m + 1) S 37 (nI (nmF t x.1 j)) (nI (x.1 + j)) := by
      intro m
      induction m with
      | zero =>
        intro j hj
        rw [LX2_numberHere_22]
        dsimp only
        rw [lt_e, a3, if_pos (nI_le (by omega) (by omega)), show j = x.2.1 - x.1 by omega]
        exact hp
      | succ m ih =>
        intro j hj
        have dg := sb_dig ((tok.2.2.2.2 (Or.inr hx) (x.1 + j) (by omega) (by omega)).trans hx)
        rw [LX2_numberHere_22]
        dsimp only
        rw [lt_e, a3, if_neg (nI_ge (by omega) (by omega)), lt_e, sh37_0 hs, dn_e, p_at hs hl ht (by omega), if_pos (show x.1 + j < k by omega)]
        simp only [lt_e]
        rw [nm_step dg.1, nI_1]
        exact ih (j + 1) (by omega)
    have e := key (x.2.1 - x.1) 0 (by omega)
    exact ⟨_, e⟩
  · rw [if_neg c] at hp
    rw [if_neg (show ¬ nI (x.2.1 - x.1) ≤ 4 from nI_ge (a := 4) (by omega) (by omega))]
    exact hp
