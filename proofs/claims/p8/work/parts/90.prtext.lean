/-! text: the tape read, the reference's side -/
def GOODm (t : Nat → Nat) (k key : Nat) (c : List Int32) (a : Nat) : Prop := ∃ x r, lx t k k 0 false = x :: r ∧ kf t (lx t k k 0 false) = key ∧ run k (r.map (sy t key)) [] 0 [] [false] 0 true = .inr (c, a)
theorem res_gg {t : Nat → Nat} {k key key' : Nat} {c c' : List Int32} {a a' : Nat} (h : GOODm t k key c a) (h' : GOODm t k key' c' a') : key' = key ∧ c' = c ∧ a' = a := by
  obtain ⟨x, r, e1, e2, e3⟩ := h
  obtain ⟨x', r', e1', e2', e3'⟩ := h'
  have ek : key' = key := e2'.symm.trans e2
  subst ek
  rw [e1] at e1'
  cases e1'
  rw [e3] at e3'
  have := Sum.inr.inj e3'
  cases this
  exact ⟨rfl, rfl, rfl⟩
theorem res_gf {t : Nat → Nat} {k key f : Nat} {c : List Int32} {a : Nat} (h : GOODm t k key c a) (hk : key < 3) (h' : FAIL t k f) : False := by
  obtain ⟨x, r, e1, e2, e3⟩ := h
  rcases h' with ⟨q, -⟩ | ⟨x', r', e1', q, e3'⟩
  · rw [e2] at q; exact q hk
  · rw [e1] at e1'
    cases e1'
    rw [e2, e3] at e3'
    cases e3'
theorem res_ff {t : Nat → Nat} {k f f' : Nat} (h : FAIL t k f) (h' : FAIL t k f') : f' = f := by
  rcases h with ⟨q, e⟩ | ⟨x, r, e1, q, e3⟩
  · rcases h' with ⟨q', e'⟩ | ⟨x', r', e1', q', e3'⟩
    · rw [e, e']
    · exact absurd q' q
  · rcases h' with ⟨q', e'⟩ | ⟨x', r', e1', q', e3'⟩
    · exact absurd q q'
    · rw [e1] at e1'
      cases e1'
      rw [e3] at e3'
      exact (Sum.inl.inj e3').symm
def FX (S S' : HC) : Prop := (∀ r i, r ≠ 77 → r ≠ 78 → r ≠ 79 → ¬ (r = 68 ∧ 8 ≤ i ∧ i ≤ 20) → hI S' r i = hI S r i) ∧ ∀ r i, hR S' r i = hR S r i
theorem FX.tr {S S' S'' : HC} (h : FX S S') (h2 : FX S' S'') : FX S S'' := ⟨fun r i u1 u2 u3 u4 => (h2.1 r i u1 u2 u3 u4).trans (h.1 r i u1 u2 u3 u4), fun r i => (h2.2 r i).trans (h.2 r i)⟩
theorem FX.s68 {S : HC} {i : Nat} {v : Int32} (h : 8 ≤ i ∧ i ≤ 20) : FX S (sI S 68 i v) := ⟨fun r j _ _ _ u => hI_ne (by omega), fun _ _ => rfl⟩
theorem FT.fx {S S' : HC} (h : FT S S') : FX S S' := ⟨fun r i u1 u2 u3 u4 => h.1 r i u1 u2 u3 (by omega), h.2⟩
theorem FX.sh {S S' : HC} (h : FX S S') (hs : SH S) : SH S' := hs.of (fun _ _ => h.2 _ _)
theorem FX.tp {S S' : HC} {t : Nat → Nat} {k : Nat} (h : FX S S') (ht : TPm S t k) : TPm S' t k := ht.ag (fun r i u => h.1 r i (by omega) (by omega) (by omega) (by omega))
theorem r_text {ln : Nat → Nat} {t : Nat → Nat} {k : Nat} {S : HC} {post : Int32 → HC → Prop} (hs : SH S) (hl : LN ln) (ht : TPm S t k) (hk : pKey S) (hb : ∀ S' f, FX S S' → FAIL t k f → hI S' 68 9 = nI f → BX8_text_33 ln post S' 68 0) (hg : ∀ S' key c a, FX S S' → key < 3 → GOODm t k key c a → CDx S' c a → c.length ≤ 96 → hI S' 68 13 = nI key → BX8_text_33 ln post S' 68 1) : wpX8_text ln S 68 post := by
  have h96 := ht.1
  unfold wpX8_text
  rw [lt_e, lt_e]
  have x2 : FX S (sI (sI S 68 8 0) 68 12 (-1)) := (FX.s68 (by decide)).tr (FX.s68 (by decide))
  have e8 : hI (sI (sI S 68 8 0) 68 12 (-1)) 68 8 = 0 := by rw [hI_ne (by decide), hI_self]
  have e12 : hI (sI (sI S 68 8 0) 68 12 (-1)) 68 12 = -1 := hI_self _ _ _ _
  generalize sI (sI S 68 8 0) 68 12 (-1) = S2 at x2 e8 e12
  refine p_go (g := false) (p := 0) (n := k) (x2.sh hs) hl (x2.tp ht) e8 (Nat.zero_le _) (fun u => by cases u) (fun _ j _ _ u => by rw [e12] at u; exact m1_ne' (by omega) u) (by omega) (fun S3 r3 g3 => ?_)
  have x3 := x2.tr g3.ft.fx
  have hs3 := x3.sh hs
  have ht3 := x3.tp ht
  have hk3 : pKey S3 := hk.ag (fun r i u => x3.1 r i (by omega) (by omega) (by omega) (by omega))
  have len := lx_len (t := t) (k := k) k 0 false (Nat.zero_le _)
  refine r_key hs3 hl ht3 hk3 r3 (fun x r e ck => ?_) (fun ck => ?_)
  · have ck0 := ck
    rw [e] at r3 ck len
    rw [List.length_cons] at len
    obtain ⟨⟨a1, a2, a3⟩, -, ⟨c1, c2⟩, tok, n, hn, hr⟩ := id r3
    have hs4 : SH (sI S3 68 13 (nI (kf t (lx t k k 0 false)))) := hs3.sI _ _ _
    refine p_go (g := decide (x.2.2 ≠ 3)) hs4 hl (ht3.ag (fun r i u => hI_ne (by omega))) (by rw [hI_ne (by decide)]; exact a2) tok.1.2 (fun u => by rw [hI_ne (by decide)]; exact c1 (of_decide_eq_true u)) (fun u => by rw [hI_ne (by decide)]; exact c2 (Decidable.not_not.mp (of_decide_eq_false u))) hn (fun S4 r4 g4 => ?_)
    rw [← hr] at r4
    have x4 : FX S S4 := (x3.tr (FX.s68 (by decide))).tr g4.ft.fx
    have hs4' := x4.sh hs
    have ek : hI S4 68 13 = nI (kf t (lx t k k 0 false)) := by rw [g4.1 68 13 (by omega), hI_self]
    rw [if_neg (by decide)]
    unfold wpX8_takesE
    rw [lt_e, lt_e, lt_e, sh68_21 (((hs4'.sI _ _ _).sI _ _ _).sI _ _ _), dn_e, ln79 hl, as_l0 (by decide) (by decide), nb0]
    have mm : MMx t k (kf t (lx t k k 0 false)) (sI (sI (sI (sI S4 68 17 0) 68 18 0) 68 20 0) 79 0 0) r [] 0 [] [false] := by
      refine ⟨⟨r4.ag (fun i u => by rw [hI_row (by decide), hI_ne (by omega), hI_ne (by omega), hI_ne (by omega)]), (x4.tp ht).ag (fun r i u => by rw [hI_row (by omega), hI_ne (by omega), hI_ne (by omega), hI_ne (by omega)]), (((hs4'.sI _ _ _).sI _ _ _).sI _ _ _).sI _ _ _, by rw [hI_row (by decide), hI_ne (by decide), hI_ne (by decide), hI_ne (by decide)]; exact ek⟩, ⟨by rw [hI_row (by decide), hI_ne (by decide), hI_ne (by decide), hI_self]; rfl, fun i hi => absurd hi (by simp), by rw [hI_row (by decide), hI_ne (by decide), hI_self]; rfl⟩, ⟨by rw [hI_row (by decide), hI_self]; rfl, trivial⟩, ?_, trivial⟩
      rw [List.length_nil, hI_self]
      rfl
    have x5 : FX S (sI (sI (sI (sI S4 68 17 0) 68 18 0) 68 20 0) 79 0 0) := (((x4.tr (FX.s68 (by decide))).tr (FX.s68 (by decide))).tr (FX.s68 (by decide))).tr (FT.arr (Or.inr (Or.inr rfl))).fx
    refine ⟨r.length + 1, m_loop hl ck0 (r.length + 1) r _ [] 0 [] false [] 0 true 1 (by omega) rfl mm (by simp; omega) (by simp) rfl (by omega) (fun S6 c' a' f6 e6 cd6 l6 => ?_) (fun S6 f f6 e6 p6 => ?_)⟩
    · rw [if_neg (by decide)]
      refine hg S6 _ c' a' (x5.tr f6.fx) ck0 ⟨x, r, e, rfl, e6⟩ cd6 l6 ?_
      rw [f6.1 68 13 (by decide) (by decide) (by decide) (by omega), hI_row (by decide), hI_ne (by decide), hI_ne (by decide), hI_ne (by decide)]
      exact ek
    · rw [if_pos rfl]
      exact hb S6 f (x5.tr f6.fx) (Or.inr ⟨x, r, e, ck0, e6⟩) p6
  · rw [if_pos rfl]
    exact hb S3 _ x3 (Or.inl ⟨ck, rfl⟩) r3.pos
/-- the code comes to the row of the now -/
theorem r_store {ln : Nat → Nat} {S : HC} {m c : Nat} {post : Int32 → HC → Prop} (hs : SH S) (hl : LN ln) (hm : m < 14) (hc : c ≤ 96) (h17 : hI S 68 17 = nI c) (h4 : hI S 69 4 = nI m) (h : ∀ S', Fl S S' 69 (117 + 96 * m) (117 + 96 * m + c) (fun i => hI S 77 (i - (117 + 96 * m))) → post (nI m) (sI S' 69 4 (nI (m + 1)))) : ∃ n, LX8_text_115 ln post n S 68 (nI m) 0 := by
  have key : ∀ q i S', i + q = c → Fl S S' 69 (117 + 96 * m) (117 + 96 * m + i) (fun i => hI S 77 (i - (117 + 96 * m))) → LX8_text_115 ln post (q + 1) S' 68 (nI m) (nI i) := by
    intro q
    induction q with
    | zero =>
      intro i S' hi hF
      have e : i = c := by omega
      subst e
      rw [LX8_text_115]
      dsimp only
      rw [lt_e, hF.o (by decide), h17, if_pos (nI_le (by omega) (by omega)), sh68_0 (hF.sh hs), dn_e, ln69 hl, al_l4 (by decide) (by decide), hF.x (by omega), h4, lt_e, nI_1, as_l4 (by decide) (by decide)]
      exact h S' hF
    | succ q ih =>
      intro i S' hi hF
      rw [LX8_text_115]
      dsimp only
      rw [lt_e, hF.o (by decide), h17, if_neg (nI_ge (by omega) (by omega)), sh68_0 (hF.sh hs), dn_e, lt_e, lt_e, lt_e, show (96 : Int32) * nI m = nI (96 * m) from pk_mul 96 m, show (117 : Int32) + nI (96 * m) = nI (117 + 96 * m) from nI_add 117 _, nI_add, sh68_16 (hF.sh hs), dn_e, ln77 hl, al_e (by omega) (by decide), ln69 hl, as_e (by omega) (by decide), lt_e, nI_1]
      refine ih (i + 1) _ (by omega) ?_
      have st := hF.step (v := hI S' 77 i) (by omega) (by rw [hF.o (by decide)]; congr 1; omega)
      exact st
  exact ⟨c + 1, key c 0 S (by omega) (Fl.rf _ _ _ _)⟩
