/-! text: a PIECE -/
theorem CCx.f8 {t : Nat → Nat} {k key : Nat} {S : HC} {ts : List (Nat × Nat × Nat)} {cc : List Int32} {lv p nn p' : Nat} (h : CCx t k key S ts cc lv p nn) : CCx t k key (sI S 37 8 (nI p')) ts cc lv p' nn := by
  obtain ⟨⟨ct, ht, hs⟩, ⟨b1, b2⟩, ⟨c1, c2⟩, d1, d2, d3⟩ := h
  exact ⟨⟨ct.ag (fun i u => hI_ne (by omega)), ht.ag (fun r i u => hI_row (by omega)), hs.sI _ _ _⟩, ⟨by rw [hI_ne (by decide)]; exact b1, by rw [hI_ne (by decide)]; exact b2⟩, ⟨by rw [hI_ne (by decide)]; exact c1, fun i hi => by rw [hI_row (by decide)]; exact c2 i hi⟩, by rw [hI_ne (by decide)]; exact d1, hI_self _ _ _ _, by rw [hI_ne (by decide)]; exact d3⟩
theorem CCx.f9 {t : Nat → Nat} {k key : Nat} {S : HC} {ts : List (Nat × Nat × Nat)} {cc : List Int32} {lv p nn n' : Nat} (h : CCx t k key S ts cc lv p nn) : CCx t k key (sI S 37 9 (nI n')) ts cc lv p n' := by
  obtain ⟨⟨ct, ht, hs⟩, ⟨b1, b2⟩, ⟨c1, c2⟩, d1, d2, d3⟩ := h
  exact ⟨⟨ct.ag (fun i u => hI_ne (by omega)), ht.ag (fun r i u => hI_row (by omega)), hs.sI _ _ _⟩, ⟨by rw [hI_ne (by decide)]; exact b1, by rw [hI_ne (by decide)]; exact b2⟩, ⟨by rw [hI_ne (by decide)]; exact c1, fun i hi => by rw [hI_row (by decide)]; exact c2 i hi⟩, by rw [hI_ne (by decide)]; exact d1, by rw [hI_ne (by decide)]; exact d2, hI_self _ _ _ _⟩
theorem hdp_le {t : Nat → Nat} {k key : Nat} {S : HC} {ts : List (Nat × Nat × Nat)} {cc : List Int32} {lv p nn : Nat} (h : CCx t k key S ts cc lv p nn) : hdp k ts ≤ 96 := by
  have h1 := h.1.1.hd.2
  have h2 := h.1.2.1.1
  omega
theorem CP_step {ln : Nat → Nat} {t : Nat → Nat} {k key d : Nat} (hl : LN ln) (hk3 : key < 3) (ihL : CL ln t k key d) (ihP : CP ln t k key d) : CP ln t k key (d + 1) := by
  intro S ts cc lv p nn post hd hp8 hn8 hc h96 ok bad
  show bdX2_readPiece ln (wpRec ln d).1 (wpRec ln d).2 S 37 post
  unfold bdX2_readPiece
  rw [lt_e, hc.2.1.1, if_pos (by decide)]
  -- a NUMBER, a NAME, or nothing
  have leaf : (∀ x r, ts = x :: r → (sy t key x).2.1 = 2 → nn = 8) → (∀ x r, ts = x :: r → (sy t key x).2.1 = 3 → p = 8) → BX2_readPiece_118 ln (wpRec ln d).1 (wpRec ln d).2 post S 37 := fun q2 q3 => by
    unfold BX2_readPiece_118
    by_cases c96 : cc.length < 96
    · refine c_leaf hl hk3 hc c96 (fun S' x r e u h' f' => ?_) (fun S' u f' g' s' => ?_)
      · subst e
        have tok := hc.1.1.2.1
        obtain ⟨le, gc⟩ := gCd_leaf tok u
        refine ok S' r [nI (sy t key x).2.2] (lv + 1) h' f' ⟨fun v hv => by rw [List.mem_singleton] at hv; rw [hv]; exact gc, fun d => ?_, by simp; omega⟩ (fun j W B b ht hn hB => ?_)
        · rw [List.map_cons, List.map_nil, trS_low (by omega)]; exact wfL_leaf le
        · rw [List.map_cons, run, if_pos rfl, if_neg (by omega), if_neg (by omega), if_pos u, stl_nots ht, List.map_append, List.map_cons, List.map_nil, trS_low (by omega)]
      · refine bad S' (hdp k ts) f' g' (hdp_le hc) s' (fun j W B b ht hn hB => ?_)
        cases ts with
        | nil => rw [List.map_nil, run_nil, if_pos rfl]; rfl
        | cons x r =>
          rw [List.map_cons, run, if_pos rfl, if_neg (fun v => by have := q2 x r rfl v.1; omega), if_neg (fun v => by have := q3 x r rfl v.1; rw [List.length_cons, hB] at v; omega), if_neg (u x r rfl)]
          rfl
    · have e : ts = [] := by
        cases ts with
        | nil => rfl
        | cons x r => simp at h96; omega
      subst e
      unfold wpX2_readLeaf
      rw [lt_e, hc.1.1.1, if_neg (by decide)]
      refine c_name0 hc ?_
      unfold BX2_readLeaf_19
      rw [if_neg (by decide)]
      refine c_fail hc (fun S' f' g' s' => bad S' (hdp k []) f' g' (hdp_le hc) s' (fun j W B b ht hn hB => ?_))
      rw [List.map_nil, run_nil, if_pos rfl]; rfl
  cases ts with
  | nil =>
    rw [show (33 : Int32) = nI 33 from rfl, c_sign0 hc, if_pos rfl]
    unfold BX2_readPiece_64
    rw [c_sign0 hc, if_pos rfl]
    exact leaf (fun x r e => by cases e) (fun x r e => by cases e)
  | cons x r =>
    have tok := hc.1.1.2.1
    have hlen : cc.length + r.length + 1 ≤ 96 := by rw [List.length_cons] at h96; omega
    rw [show (33 : Int32) = nI 33 from rfl, c_sign hl hc (by decide)]
    by_cases c1 : x.2.2 = 3 ∧ t x.1 = 33
    · have k2 : (sy t key x).2.1 = 2 := (sy_k (Or.inl ⟨rfl, rfl⟩)).mpr c1
      rw [bI_t c1, if_neg (by decide), lt_e, hc.2.2.2.2.2]
      by_cases c8 : nn = 8
      · rw [if_pos (show (8 : Int32) ≤ nI nn from nI_le (a := 8) (by omega) (by omega))]
        unfold BX2_readPiece_64
        rw [show (40 : Int32) = nI 40 from rfl, c_sign hl hc (by decide), bI_f (by omega), if_pos rfl]
        exact leaf (fun y r' e u => c8) (fun y r' e u => by cases e; omega)
      · rw [if_neg (show ¬ (8 : Int32) ≤ nI nn from nI_ge (b := 8) (by omega) (by decide)), lt_e, lt_e, nI_1, lt_e]
        refine c_adv hl (hc.f9 (n' := nn + 1)) (by omega) (fun S1 h1 f1 => ?_)
        have step : ∀ j W B b, run k ((x :: r).map (sy t key)) (cc.map trS) lv (List.replicate j (-10) ++ W) (b :: B) nn true = run k (r.map (sy t key)) (cc.map trS) lv (List.replicate (j + 1) (-10) ++ W) (b :: B) (cN (List.replicate (j + 1) (-10) ++ W)) true := fun j W B b => by
          rw [List.map_cons, run, if_pos rfl, if_pos ⟨k2, by omega⟩]
          rfl
        refine ihP S1 r cc lv p (nn + 1) _ (by omega) hp8 (by omega) h1 (by omega) (fun S2 ts2 g lv2 h2 f2 g2 sim => ?_) (fun S2 f f2 e2 f96 s2 sim => ?_)
        · rw [lt_e, h2.2.2.2.2.2, lt_e, show nI (nn + 1) - 1 = nI nn from pk_sub (a := nn + 1) (b := 1) (by omega), lt_e]
          have glen := g2.2.2
          refine c_write hl (h2.f9 (n' := nn)) (by rw [List.length_append]; omega) (fun S3 h3 f3 => ?_)
          refine ok S3 ts2 (g ++ [20033]) lv2 (by rw [← List.append_assoc]; exact h3) ((((FR.s37 (i := 9)).tr f1).tr f2).tr ((FR.s37 (i := 9)).tr f3)) ⟨fun v hv => ?_, fun d => ?_, by rw [List.length_append]; simp; omega⟩ (fun j W B b ht hn hB => ?_)
          · rcases List.mem_append.mp hv with q | q
            · exact g2.1 v q
            · rw [List.mem_singleton] at q; rw [q]; exact ⟨by decide, fun _ => by decide⟩
          · rw [List.map_append, wfL_app _ _ d (d + 1) (g2.2.1 d)]
            exact wfL_not
          · have cn : cN (List.replicate (j + 1) (-10) ++ W) = nn + 1 := by
              rw [List.replicate_succ, List.cons_append, cN, if_pos rfl, hn]; omega
            rw [step, cn, sim (j + 1) W B b ht cn hB]
            congr 1
            have e33 : [(20033 : Int32)].map trS = [-10] := by decide
            rw [← List.append_assoc cc g [20033], List.map_append (l₁ := cc ++ g), e33, List.append_assoc]
            rfl
        · rw [lt_e, lt_e, lt_e]
          refine x_write (s2.sI _ _ _) hl (fun S3 f3 e3 s3 => bad S3 f ((((FR.s37 (i := 9)).tr f1).tr f2).tr ((FR.s37 (i := 9)).tr f3)) (by rw [e3, hI_ne (by decide)]; exact e2) f96 s3 (fun j W B b ht hn hB => ?_))
          have cn : cN (List.replicate (j + 1) (-10) ++ W) = nn + 1 := by
            rw [List.replicate_succ, List.cons_append, cN, if_pos rfl, hn]; omega
          rw [step, cn]
          exact sim (j + 1) W B b ht cn hB
    · rw [bI_f c1, if_pos rfl]
      have nk2 : (sy t key x).2.1 ≠ 2 := fun u => c1 ((sy_k (Or.inl ⟨rfl, rfl⟩)).mp u)
      unfold BX2_readPiece_64
      rw [show (40 : Int32) = nI 40 from rfl, c_sign hl hc (by decide)]
      by_cases c2 : x.2.2 = 3 ∧ t x.1 = 40
      · have k3 : (sy t key x).2.1 = 3 := (sy_k (Or.inr (Or.inl ⟨rfl, rfl⟩))).mpr c2
        rw [bI_t c2, if_neg (by decide), lt_e, hc.2.2.2.2.1]
        by_cases c8 : p = 8
        · rw [if_pos (show (8 : Int32) ≤ nI p from nI_le (a := 8) (by omega) (by omega))]
          exact leaf (fun y r' e u => by cases e; exact absurd u nk2) (fun y r' e u => c8)
        · rw [if_neg (show ¬ (8 : Int32) ≤ nI p from nI_ge (b := 8) (by omega) (by decide)), lt_e, lt_e, nI_1, lt_e]
          refine c_adv hl (hc.f8 (p' := p + 1)) (by omega) (fun S1 h1 f1 => ?_)
          have step : ∀ W B b, B.length = p → run k ((x :: r).map (sy t key)) (cc.map trS) lv W (b :: B) nn true = run k (r.map (sy t key)) (cc.map trS) lv (-11 :: W) (false :: b :: B) (cN W) true := fun W B b hB => by
            rw [List.map_cons, run, if_pos rfl, if_neg (fun u => nk2 u.1), if_pos ⟨k3, by rw [List.length_cons, hB]; omega⟩]
            congr 1
            rw [cN, if_neg (by decide)]; omega
          refine ihL S1 r cc lv (p + 1) nn 0 _ (by omega) (by omega) (by omega) hn8 h1 (by omega) (fun S2 ts2 g lv2 h2 f2 g2 sim => ?_) (fun S2 f f2 e2 f96 s2 sim => ?_)
          · rw [lt_e, h2.2.2.2.2.1, lt_e, show nI (p + 1) - 1 = nI p from pk_sub (a := p + 1) (b := 1) (by omega), lt_e]
            have h3 := h2.f8 (p' := p)
            have f3 : FR S (sI S2 37 8 (nI p)) := (((FR.s37 (i := 8)).tr f1).tr f2).tr FR.s37
            unfold wpX2_readClosing BX2_readClosing_23
            rw [lt_e, h3.2.1.1, if_neg (by decide)]
            have fl : (∀ y r', ts2 = y :: r' → (sy t key y).2.1 ≠ 4) → ∀ S4, FR (sI S2 37 8 (nI p)) S4 → hI S4 37 10 = nI (hdp k ts2) → SH S4 → post S4 := fun u S4 f4 e4 s4 => by
              refine bad S4 (hdp k ts2) (f3.tr f4) e4 (hdp_le h3) s4 (fun j W B b ht hn hB => ?_)
              rw [step _ B b hB]
              obtain ⟨P, rc, b', e1, e5, e6, e7, e8⟩ := sim (-11 :: (List.replicate j (-10) ++ W)) (b :: B) false ⟨Or.inr ⟨_, _, rfl, Or.inl rfl⟩, fun _ => rfl⟩ (by rw [cN, if_neg (by decide), hn]; omega) (by rw [List.length_cons, hB])
              rw [hn, e1]
              exact run_stop e8 (fun _ q => by cases q) (fun y r' q v => absurd v (u y r' q))
            cases ts2 with
            | nil =>
              rw [c_sign0 h3, if_pos rfl]
              exact c_fail h3 (fun S4 f4 e4 s4 => fl (fun y r' e => by cases e) S4 f4 e4 s4)
            | cons y r2 =>
              rw [show (41 : Int32) = nI 41 from rfl, c_sign hl h3 (by decide)]
              by_cases c4 : y.2.2 = 3 ∧ t y.1 = 41
              · have k4 : (sy t key y).2.1 = 4 := (sy_k (Or.inr (Or.inr ⟨rfl, rfl⟩))).mpr c4
                rw [bI_t c4, if_neg (by decide)]
                refine c_adv hl h3 (by omega) (fun S4 h4 f4 => ?_)
                have glen := g2.2.2
                rw [List.length_cons] at glen
                refine ok S4 r2 g lv2 h4 (f3.tr f4) ⟨g2.1, g2.2.1, by rw [List.length_cons]; omega⟩ (fun j W B b ht hn hB => ?_)
                rw [step _ B b hB]
                obtain ⟨P, rc, b', e1, e5, e6, e7, e8⟩ := sim (-11 :: (List.replicate j (-10) ++ W)) (b :: B) false ⟨Or.inr ⟨_, _, rfl, Or.inl rfl⟩, fun _ => rfl⟩ (by rw [cN, if_neg (by decide), hn]; omega) (by rw [List.length_cons, hB])
                rw [hn, e1, List.map_cons, run, if_neg (by decide), if_pos ⟨k4, by simp⟩]
                have s0 : stl 0 (P ++ -11 :: (List.replicate j (-10) ++ W)) rc = (-11 :: (List.replicate j (-10) ++ W), rc ++ P) := by
                  rw [stl_pop P _ rc (fun z hz => ⟨Nat.zero_le _, (e6 z hz).2.1⟩)]
                  exact stl_stop (Or.inr ⟨_, _, rfl, Or.inl rfl⟩)
                rw [s0]
                dsimp only [List.tail_cons]
                rw [stl_nots ht, e5]
              · rw [bI_f c4, if_pos rfl]
                have nk4 : (sy t key y).2.1 ≠ 4 := fun u => c4 ((sy_k (Or.inr (Or.inr ⟨rfl, rfl⟩))).mp u)
                exact c_fail h3 (fun S4 f4 e4 s4 => fl (fun z r' e => by cases e; exact nk4) S4 f4 e4 s4)
          · rw [lt_e, lt_e, lt_e]
            have e3 : hI (sI S2 37 8 (hI S2 37 8 - 1)) 37 10 = nI f := by rw [hI_ne (by decide)]; exact e2
            unfold wpX2_readClosing BX2_readClosing_23
            rw [lt_e, e3, if_pos (nI_pos' (by omega))]
            refine x_fail e3 f96 (bad _ f ((((FR.s37 (i := 8)).tr f1).tr f2).tr FR.s37) e3 f96 (s2.sI _ _ _) (fun j W B b ht hn hB => ?_))
            rw [step _ B b hB, hn]
            exact sim (-11 :: (List.replicate j (-10) ++ W)) (b :: B) false ⟨Or.inr ⟨_, _, rfl, Or.inl rfl⟩, fun _ => rfl⟩ (by rw [cN, if_neg (by decide), hn]; omega) (by rw [List.length_cons, hB])
      · rw [bI_f c2, if_pos rfl]
        have nk3 : (sy t key x).2.1 ≠ 3 := fun u => c2 ((sy_k (Or.inr (Or.inl ⟨rfl, rfl⟩))).mp u)
        exact leaf (fun y r' e u => by cases e; exact absurd u nk2) (fun y r' e u => by cases e; exact absurd u nk3)
