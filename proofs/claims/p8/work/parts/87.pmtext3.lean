/-! text: the reference's loop -/
def oN : List Int32 → Nat
  | [] => 0
  | x :: W => (if x = -11 then 1 else 0) + oN W
theorem stl_oN {r : Nat} : ∀ (W c : List Int32), oN (stl r W c).1 = oN W := by
  intro W
  induction W with
  | nil => intro c; rfl
  | cons x V ih =>
    intro c
    rw [stl]
    by_cases q : x = -11 ∨ rk x < r
    · rw [if_pos q]
    · rw [if_neg q, ih, oN, if_neg (fun u => q (Or.inl u))]; omega
theorem stl0_open : ∀ (W c : List Int32), 0 < oN W → ∃ V, (stl 0 W c).1 = -11 :: V ∧ oN V + 1 = oN W := by
  intro W
  induction W with
  | nil => intro c h; rw [oN] at h; omega
  | cons x V ih =>
    intro c h
    rw [stl]
    by_cases q : x = -11
    · rw [if_pos (Or.inl q), q, oN, if_pos rfl]
      exact ⟨V, rfl, by omega⟩
    · rw [oN, if_neg q] at h
      rw [if_neg (fun u => u.elim q (fun u => by omega)), oN, if_neg q]
      obtain ⟨V', e1, e2⟩ := ih (c ++ [x]) (by omega)
      exact ⟨V', e1, by omega⟩
theorem cN_le : ∀ W : List Int32, cN W ≤ W.length := by
  intro W
  induction W with
  | nil => exact Nat.le_refl _
  | cons x V ih => rw [cN, List.length_cons]; split <;> omega
theorem MMx.drop {t : Nat → Nat} {k key : Nat} {S : HC} {ts : List (Nat × Nat × Nat)} {c : List Int32} {a : Nat} {x : Int32} {V : List Int32} {B : List Bool} (h : MMx t k key S ts c a (x :: V) B) : MMx t k key (sI S 68 20 (nI V.length)) ts c a V B := by
  obtain ⟨⟨r1, ht, hs, hk⟩, ⟨d1, d2, d3⟩, ⟨w1, w2⟩, hB⟩ := h
  exact ⟨⟨r1.ag (fun i u => hI_ne (by omega)), ht.ag (fun r i u => hI_ne (by omega)), hs.sI _ _ _, by rw [hI_ne (by decide)]; exact hk⟩, ⟨by rw [hI_ne (by decide)]; exact d1, fun i hi => by rw [hI_row (by decide)]; exact d2 i hi, by rw [hI_ne (by decide)]; exact d3⟩, ⟨hI_self _ _ _ _, w2.2.ag (fun i _ => hI_row (by decide))⟩, hB.ag (fun i _ => hI_row (by decide))⟩
theorem nb0 : vp_nar .boolean 0 = 0 := rfl
theorem nb1 : vp_nar .boolean 1 = 1 := rfl
theorem RTk.pos {t : Nat → Nat} {k : Nat} {S : HC} {ts : List (Nat × Nat × Nat)} (h : RTk t k S ts) : hI S 68 9 = nI (hdp k ts) := by
  cases ts with
  | nil => exact h.2
  | cons x r => exact h.1.1
theorem m_loop {ln : Nat → Nat} {t : Nat → Nat} {k key : Nat} {post : Int32 → HC → Prop} (hl : LN ln) (hk3 : key < 3) : ∀ (m : Nat) (ts : List (Nat × Nat × Nat)) (S : HC) (c : List Int32) (a : Nat) (W : List Int32) (b : Bool) (B : List Bool) (nn : Nat) (w : Bool) (w' : Int32), ts.length < m → (w' = if w = true then 1 else 0) → MMx t k key S ts c a W (b :: B) → c.length + W.length + ts.length ≤ 96 → B.length ≤ 8 → oN W = B.length → nn ≤ 96 → (∀ S' c' a', FT S S' → run k (ts.map (sy t key)) c a W (b :: B) nn w = .inr (c', a') → CDx S' c' a' → c'.length ≤ 96 → post 1 S') → (∀ S' f, FT S S' → run k (ts.map (sy t key)) c a W (b :: B) nn w = .inl f → hI S' 68 9 = nI f → post 0 S') → LX8_takesE_28 ln post m S 68 (nI B.length) (nI nn) w' := by
  intro m
  induction m with
  | zero => intro ts S c a W b B nn w w' hm; omega
  | succ m ih =>
    intro ts S c a W b B nn w w' hm hw' h h96 hB8 hoN hnn good bad
    have hs := h.1.2.2.1
    have w1 := h.2.2.1.1
    rw [LX8_takesE_28]
    dsimp only
    cases w with
    | false =>
      have e0 : w' = 0 := hw'
      subst e0
      rw [if_pos rfl, lt_e]
      cases ts with
      | nil =>
        rw [h.1.1.1, if_pos rfl]
        refine (m_settle (r := 0) hl (by decide) W c S (by omega) h (fun S1 h1 f1 => ?_)).1
        rw [rb_e0, rb_e1]
        have sl := stl_len (r := 0) W c
        by_cases cB : B.length = 0
        · rw [if_pos (by rw [cB]; rfl)]
          refine good S1 _ a f1 ?_ h1.2.1 (by omega)
          rw [List.map_nil, run_nil, if_neg (by decide), if_pos (by rw [List.length_cons]; omega)]
        · rw [if_neg (show ¬ nI B.length = 0 from nI_ne0 (by omega) (by omega))]
          refine bad S1 k f1 ?_ h1.1.1.2
          rw [List.map_nil, run_nil, if_neg (by decide), if_neg (by rw [List.length_cons]; omega)]
      | cons x r =>
        obtain ⟨⟨a1, a2, a3⟩, ⟨b1, b2⟩, -, tok, -⟩ := id h.1.1
        have ke := kdT_e tok.2.1
        rw [List.length_cons] at h96 hm
        rw [List.map_cons, run, if_neg (by decide)] at good bad
        rw [a3, if_neg (nI_ne0 (by omega) (by omega))]
        unfold BX8_takesE_39
        rw [if_pos rfl, m_is (b := 41) (v := 41) h rfl (by decide)]
        -- no closing bracket here
        have nop : ¬ ((sy t key x).2.1 = 4 ∧ 1 < (b :: B).length) → BX8_takesE_237 ln post (LX8_takesE_28 ln post m) S 68 (nI B.length) (nI nn) := fun nc => by
          rw [if_neg nc] at good bad
          unfold BX8_takesE_237 BX8_takesE_266
          rw [m_sign h]
          by_cases c1 : (sy t key x).2.1 = 1
          · have so := sy_op.mp c1
            have v1 : (sy t key x).2.2 = t x.1 := (sy_s3 so.1).2
            have s := sg_ok so.2
            have ol : opL (t x.1) ≤ 4 := by rcases opL_in so.2 with e | e | e | e | e | e | e | e | e <;> rw [e] <;> decide
            have hb79 := h.2.2.2.1
            have b01 : (b :: B).headD false = b := rfl
            rw [v1, b01] at good bad
            have take : ¬ (opL (t x.1) = 2 ∧ b = true) → BX8_takesE_268 ln post (LX8_takesE_28 ln post m) S 68 (nI B.length) (nI nn) (sg (t x.1)) := fun nb => by
              rw [if_pos ⟨c1, nb⟩] at good bad
              have fin : ∀ (v : Int32), (v = if (decide (opL (t x.1) = 2) || (decide (2 < opL (t x.1)) && b)) = true then 1 else 0) → vp_nar .boolean v = v → BX8_takesE_305 ln post (LX8_takesE_28 ln post m) S 68 (nI B.length) (nI nn) (sg (t x.1)) 79 (nI B.length) v := fun v hv hn => by
                unfold BX8_takesE_305
                rw [ln79 hl, as_e (by omega) (by decide), hn, p_rank, s.1]
                have h1 := h.dropB.tst (j := B.length) (b := (decide (opL (t x.1) = 2) || (decide (2 < opL (t x.1)) && b))) rfl hv
                refine (m_settle (r := opL (t x.1) + 1) hl (by omega) W c _ (by omega) h1 (fun S2 h2 f2 => ?_)).1
                have sl := stl_len (r := opL (t x.1) + 1) W c
                rw [sh68_19 h2.1.2.2.1, dn_e, lt_e, h2.2.2.1.1, ln78 hl, as_e (by omega) (by decide), lt_e, hI_row (by decide), h2.2.2.1.1, lt_e, nI_1, lt_e]
                refine m_go hl h2.push (fun S3 h3 f3 => ?_)
                have ff : FT S S3 := ((FT.arr (Or.inr (Or.inr rfl))).tr f2).tr (((FT.arr (Or.inr (Or.inl rfl))).tr (FT.s68 (Or.inr (Or.inr (Or.inr rfl))))).tr f3)
                refine ih r S3 _ a _ _ B nn true 1 (by omega) rfl h3 (by rw [List.length_cons]; omega) hB8 (by rw [oN, if_neg s.2.1, stl_oN, hoN]; omega) hnn (fun S' c' a' f' e' => good S' c' a' (ff.tr f') e') (fun S' f f' e' => bad S' f (ff.tr f') e')
              unfold BX8_takesE_268 BX8_takesE_304 BX8_takesE_300
              rw [sh68_21 hs, dn_e, p_rank, s.1]
              by_cases r3 : opL (t x.1) = 2
              · rw [if_pos (by rw [r3]; rfl)]
                exact fin 1 (by rw [decide_eq_true r3]; rfl) nb1
              · rw [if_neg (show ¬ nI (opL (t x.1) + 1) = 3 from fun u => r3 (by have := (nI_eq (b := 3) (by omega) (by decide)).mp u; omega)), p_rank, s.1]
                by_cases r4 : opL (t x.1) < 2
                · rw [if_pos (show nI (opL (t x.1) + 1) ≤ 3 from nI_le (b := 3) (by omega) (by decide))]
                  exact fin 0 (by rw [decide_eq_false r3, decide_eq_false (show ¬ 2 < opL (t x.1) by omega)]; rfl) nb0
                · rw [if_neg (show ¬ nI (opL (t x.1) + 1) ≤ 3 from nI_ge (a := 3) (by omega) (by omega)), sh68_21 hs, dn_e, ln79 hl, al_e (by omega) (by decide), hb79]
                  cases b with
                  | false =>
                    rw [if_pos (show (if false = true then (1 : Int32) else 0) = 0 by decide)]
                    exact fin 0 (by rw [decide_eq_false r3, Bool.and_false]; rfl) nb0
                  | true =>
                    rw [if_neg (show ¬ (if true = true then (1 : Int32) else 0) = 0 by decide)]
                    exact fin 1 (by rw [decide_eq_false r3, decide_eq_true (show 2 < opL (t x.1) by omega)]; rfl) nb1
            rw [if_pos c1, if_neg (fun u => by rw [u] at s; exact absurd s.2.2.2.1 (by decide)), p_rank, s.1]
            by_cases r3 : opL (t x.1) = 2
            · rw [if_pos (by rw [r3]; rfl), sh68_21 hs, dn_e, ln79 hl, al_e (by omega) (by decide), hb79]
              cases b with
              | false =>
                rw [if_pos (show (if false = true then (1 : Int32) else 0) = 0 by decide)]
                exact take (fun u => by cases u.2)
              | true =>
                rw [if_neg (fun u => u.2 ⟨r3, rfl⟩)] at bad
                rw [if_neg (show ¬ (if true = true then (1 : Int32) else 0) = 0 by decide), rb_e0]
                exact bad S x.1 (FT.rf S) rfl a1
            · rw [if_neg (show ¬ nI (opL (t x.1) + 1) = 3 from fun u => r3 (by have := (nI_eq (b := 3) (by omega) (by decide)).mp u; omega))]
              exact take (fun u => r3 u.1)
          · rw [if_neg (fun u => c1 u.1)] at bad
            rw [if_neg c1, if_pos rfl, rb_e0]
            exact bad S x.1 (FT.rf S) rfl a1
        by_cases c4 : x.2.2 = 3 ∧ t x.1 = 41
        · have k4 : (sy t key x).2.1 = 4 := (sy_k (Or.inr (Or.inr ⟨rfl, rfl⟩))).mpr c4
          rw [if_pos c4]
          cases B with
          | nil =>
            rw [if_pos (by decide)]
            exact nop (fun u => by simp at u)
          | cons b2 B2 =>
            have lc : (b :: b2 :: B2).length = B2.length + 2 := rfl
            rw [if_neg (nI_nle (by rw [List.length_cons]; omega) (by omega))]
            rw [if_pos ⟨k4, by rw [lc]; omega⟩] at good bad
            refine (m_settle (r := 0) hl (by decide) W c S (by omega) h (fun S1 h1 f1 => ?_)).1
            have sl0 := stl_len (r := 0) W c
            rw [List.length_cons] at hoN hB8
            obtain ⟨V, eV, oV⟩ := stl0_open W c (by omega)
            rw [eV] at h1 good bad sl0
            rw [List.length_cons] at sl0
            dsimp only [List.tail_cons] at good bad
            have e20 : hI S1 68 20 = nI (V.length + 1) := h1.2.2.1.1
            rw [lt_e, e20, lt_e, show nI (V.length + 1) - 1 = nI V.length from pk_sub (a := V.length + 1) (b := 1) (by omega), lt_e, lt_e, show nI (b2 :: B2).length + -1 = nI B2.length from pk_m1 B2.length]
            refine (m_settle (r := 6) hl (by decide) V (stl 0 W c).2 _ (by omega) h1.drop (fun S2 h2 f2 => ?_)).1
            have sl6 := stl_len (r := 6) V (stl 0 W c).2
            refine m_nots hl h2 (by omega) ?_
            refine m_go hl h2 (fun S3 h3 f3 => ?_)
            have ff : FT S S3 := ((f1.tr (FT.s68 (Or.inr (Or.inr (Or.inr rfl))))).tr f2).tr f3
            have cn := cN_le (stl 6 V (stl 0 W c).2).1
            exact ih r S3 _ a _ b2 B2 _ false 0 (by omega) rfl h3.dropB (by omega) (by omega) (by rw [stl_oN]; omega) (by omega) (fun S' c' a' f' e' => good S' c' a' (ff.tr f') e') (fun S' f f' e' => bad S' f (ff.tr f') e')
        · have nk4 : (sy t key x).2.1 ≠ 4 := fun u => c4 ((sy_k (Or.inr (Or.inr ⟨rfl, rfl⟩))).mp u)
          rw [if_neg c4]
          exact nop (fun u => nk4 u.1)
    | true =>
      have e0 : w' = 1 := hw'
      subst e0
      rw [if_neg (by decide)]
      unfold BX8_takesE_39
      rw [if_neg (by decide)]
      cases ts with
      | nil =>
        rw [m_is0 h]
        unfold BX8_takesE_97 BX8_takesE_158
        rw [m_is0 h]
        refine m_part hl hk3 h (by omega) (fun S' x r e => by cases e) (fun _ => ?_)
        rw [if_pos rfl, rb_e0]
        exact bad S k (FT.rf S) (by rw [List.map_nil, run_nil, if_pos rfl]) h.1.1.2
      | cons x r =>
        rw [List.length_cons] at h96 hm
        rw [List.map_cons, run, if_pos rfl] at good bad
        have tok := h.1.1.2.2.2.1
        -- a NUMBER, a NAME, or nothing
        have part : ¬ ((sy t key x).2.1 = 2 ∧ nn < 8) → ¬ ((sy t key x).2.1 = 3 ∧ (b :: B).length ≤ 8) → BX8_takesE_158 ln post (LX8_takesE_28 ln post m) S 68 (nI B.length) := fun n2 n3 => by
          rw [if_neg n2, if_neg n3] at good bad
          unfold BX8_takesE_158 BX8_takesE_172
          refine m_part hl hk3 h (by rw [List.length_cons]; omega) (fun S1 y r' e u h1 f1 => ?_) (fun u => ?_)
          · cases e
            rw [if_pos u] at good bad
            rw [if_neg (by decide)]
            have sl := stl_len (r := 6) W (c ++ [nI (sy t key x).2.2])
            rw [List.length_append] at sl
            have sl' : (stl 6 W (c ++ [nI (sy t key x).2.2])).1.length + (stl 6 W (c ++ [nI (sy t key x).2.2])).2.length = W.length + (c.length + 1) ∧ (stl 6 W (c ++ [nI (sy t key x).2.2])).1.length ≤ W.length := sl
            have cn := cN_le (stl 6 W (c ++ [nI (sy t key x).2.2])).1
            refine m_nots hl h1 (by omega) ?_
            exact ih r S1 _ (a + 1) _ b B _ false 0 (by omega) rfl h1 (by omega) hB8 (by rw [stl_oN, hoN]) (by omega) (fun S' c' a' f' e' => good S' c' a' (f1.tr f') e') (fun S' f f' e' => bad S' f (f1.tr f') e')
          · have u0 := u x r rfl
            rw [if_neg u0] at bad
            rw [if_pos rfl, rb_e0]
            exact bad S x.1 (FT.rf S) rfl h.1.1.1.1
        have brk : ¬ ((sy t key x).2.1 = 2 ∧ nn < 8) → BX8_takesE_97 ln post (LX8_takesE_28 ln post m) S 68 (nI B.length) 1 := fun n2 => by
          unfold BX8_takesE_97
          rw [m_is (b := 40) (v := 40) h rfl (by decide)]
          by_cases c3 : x.2.2 = 3 ∧ t x.1 = 40
          · have k3 : (sy t key x).2.1 = 3 := (sy_k (Or.inr (Or.inl ⟨rfl, rfl⟩))).mpr c3
            rw [if_pos c3]
            by_cases c8 : B.length = 8
            · rw [if_pos (show (8 : Int32) ≤ nI B.length from nI_le (a := 8) (by omega) (by omega))]
              exact part n2 (fun u => by rw [List.length_cons] at u; omega)
            · rw [if_neg n2, if_pos ⟨k3, by rw [List.length_cons]; omega⟩] at good bad
              rw [if_neg (show ¬ (8 : Int32) ≤ nI B.length from nI_ge (b := 8) (by omega) (by decide)), sh68_19 hs, dn_e, lt_e, w1, ln78 hl, as_e (by omega) (by decide), lt_e, hI_row (by decide), w1, lt_e, nI_1, lt_e, lt_e, nI_1, sh68_21 ((hs.sI _ _ _).sI _ _ _), dn_e, ln79 hl, as_e (by omega) (by decide), nb0]
              refine m_go hl (h.push.tst (j := B.length + 1) (b := false) rfl rfl) (fun S3 h3 f3 => ?_)
              unfold BX8_takesE_172
              refine m_nots hl h3 (by rw [List.length_cons]; omega) ?_
              have ff : FT S S3 := (((FT.arr (Or.inr (Or.inl rfl))).tr (FT.s68 (Or.inr (Or.inr (Or.inr rfl))))).tr (FT.arr (Or.inr (Or.inr rfl)))).tr f3
              have cn := cN_le (-11 :: W)
              rw [List.length_cons] at cn
              exact ih r S3 c a _ false (b :: B) _ true 1 (by omega) rfl h3 (by rw [List.length_cons]; omega) (by rw [List.length_cons]; omega) (by rw [oN, if_pos rfl, List.length_cons]; omega) (by omega) (fun S' c' a' f' e' => good S' c' a' (ff.tr f') e') (fun S' f f' e' => bad S' f (ff.tr f') e')
          · have nk3 : (sy t key x).2.1 ≠ 3 := fun u => c3 ((sy_k (Or.inr (Or.inl ⟨rfl, rfl⟩))).mp u)
            rw [if_neg c3]
            exact part n2 (fun u => nk3 u.1)
        rw [m_is (b := 33) (v := 33) h rfl (by decide)]
        by_cases c2 : x.2.2 = 3 ∧ t x.1 = 33
        · have k2 : (sy t key x).2.1 = 2 := (sy_k (Or.inl ⟨rfl, rfl⟩)).mpr c2
          rw [if_pos c2]
          by_cases c8 : 8 ≤ nn
          · rw [if_pos (show (8 : Int32) ≤ nI nn from nI_le (a := 8) c8 (by omega))]
            exact brk (fun u => by omega)
          · rw [if_pos ⟨k2, by omega⟩] at good bad
            rw [if_neg (show ¬ (8 : Int32) ≤ nI nn from nI_ge (b := 8) (by omega) (by decide)), sh68_19 hs, dn_e, lt_e, w1, ln78 hl, as_e (by omega) (by decide), lt_e, hI_row (by decide), w1, lt_e, nI_1, lt_e, lt_e]
            refine m_go hl h.push (fun S3 h3 f3 => ?_)
            unfold BX8_takesE_172
            refine m_nots hl h3 (by rw [List.length_cons]; omega) ?_
            have ff : FT S S3 := ((FT.arr (Or.inr (Or.inl rfl))).tr (FT.s68 (Or.inr (Or.inr (Or.inr rfl))))).tr f3
            have cn := cN_le (-10 :: W)
            rw [List.length_cons] at cn
            exact ih r S3 c a _ b B _ true 1 (by omega) rfl h3 (by rw [List.length_cons]; omega) hB8 (by rw [oN, if_neg (by decide)]; omega) (by omega) (fun S' c' a' f' e' => good S' c' a' (ff.tr f') e') (fun S' f f' e' => bad S' f (ff.tr f') e')
        · have nk2 : (sy t key x).2.1 ≠ 2 := fun u => c2 ((sy_k (Or.inl ⟨rfl, rfl⟩)).mp u)
          rw [if_neg c2]
          exact brk (fun u => nk2 u.1)
