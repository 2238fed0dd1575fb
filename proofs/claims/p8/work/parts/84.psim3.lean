/-! text: the levels -/
theorem m1_ne' {j : Nat} (h : j < 2 ^ 31) : ¬ (-1 : Int32) = nI j := fun u => m1_ne h u.symm
theorem x_loop {ln : Nat → Nat} {RL : HC → Nat → Int32 → (HC → Prop) → Prop} {RP : HC → Nat → (HC → Prop) → Prop} {post : HC → Prop} {S : HC} {x1 x2 x3 : Int32} {f m : Nat} (h : hI S 37 10 = nI f) (hf : f ≤ 96) (hp : post S) : LX2_readLevel_31 ln RL RP post (m + 1) S 37 x1 x2 x3 := by
  rw [LX2_readLevel_31]
  dsimp only
  rw [lt_e, h, if_pos (nI_pos' (by omega))]
  split
  · exact hp
  · exact hp
theorem RC.app {P : List Int32} {level b : Nat} (h : RC P (level + 1)) (hb : opL b = level) (h9 : level < 9) : RC (P ++ [sg b]) level := by
  intro x hx
  rcases List.mem_append.mp hx with q | q
  · have := h x q
    exact ⟨by omega, this.2⟩
  · rw [List.mem_singleton] at q
    have s := sg_ok (b := b) (by omega)
    rw [q]
    exact ⟨by omega, s.2.1, s.2.2.1⟩
theorem CL_step {ln : Nat → Nat} {t : Nat → Nat} {k key d : Nat} (hl : LN ln) (ihL : CL ln t k key d) (ihP : CP ln t k key d) : CL ln t k key (d + 1) := by
  intro S ts cc lv p nn level post hlv hd hp8 hn8 hc h96 ok bad
  show bdX2_readLevel ln (wpRec ln d).1 (wpRec ln d).2 S 37 (nI level) post
  unfold bdX2_readLevel
  by_cases c5 : level < 5
  · rw [if_pos (show nI level < 5 from nI_lt (b := 5) c5 (by decide)), lt_e, nI_1]
    -- the loop at this level
    have loop : ∀ (most : Nat), (most = if level = 2 then 1 else 96) → ∀ (m i : Nat) (S1 : HC) (ts1 : List (Nat × Nat × Nat)) (g1 : List Int32) (lv1 : Nat), ts1.length < m → i + ts1.length ≤ 96 → CCx t k key S1 ts1 (cc ++ g1) lv1 p nn → FR S S1 → GR key ts g1 ts1 → (∀ W B b, ENT level W b → cN W = nn → B.length = p → ∃ P rc b', run k (ts.map (sy t key)) (cc.map trS) lv W (b :: B) nn true = run k (ts1.map (sy t key)) rc lv1 (P ++ W) (b' :: B) nn false ∧ rc ++ P = (cc ++ g1).map trS ∧ RC P level ∧ (3 ≤ level → b' = b) ∧ XC t key (level + 1) b' ts1 ∧ (level = 2 → (i = 0 → b' = false) ∧ (0 < i → b' = true))) → LX2_readLevel_31 ln (wpRec ln d).1 (wpRec ln d).2 post m S1 37 (nI level) (nI most) (nI i) := by
      intro most hmost m
      have hm96 : most ≤ 96 := by rw [hmost]; split <;> omega
      induction m with
      | zero => intro i S1 ts1 g1 lv1 hm; omega
      | succ m ih =>
        intro i S1 ts1 g1 lv1 hm hi hc1 f1 g1ok sim
        rw [LX2_readLevel_31]
        dsimp only
        have stop : (∀ b', XC t key (level + 1) b' ts1 → (level = 2 → (i = 0 → b' = false) ∧ (0 < i → b' = true)) → XC t key level b' ts1) → post S1 := fun u => by
          refine ok S1 ts1 g1 lv1 hc1 f1 g1ok (fun W B b h1 h2 h3 => ?_)
          obtain ⟨P, rc, b', e1, e2, e3, e4, e5, e6⟩ := sim W B b h1 h2 h3
          exact ⟨P, rc, b', e1, e2, e3, e4, u b' e5 e6⟩
        by_cases ci : most ≤ i
        · rw [if_pos (nI_le ci (by omega))]
          refine stop (fun b' q1 q2 => ?_)
          cases ts1 with
          | nil => exact trivial
          | cons x r =>
            by_cases c2 : level = 2
            · rw [if_pos c2] at hmost
              have bt := (q2 c2).2 (by omega)
              intro u
              rcases q1 u with v | v
              · by_cases w : opL (sy t key x).2.2 = 2
                · exact Or.inr ⟨w, bt⟩
                · exact Or.inl (by omega)
              · exact Or.inr v
            · rw [if_neg c2] at hmost
              rw [List.length_cons] at hi
              omega
        rw [if_neg (nI_ge (by omega) (by omega)), lt_e, hc1.2.1.1, if_neg (by decide), c_level hl hc1]
        cases ts1 with
        | nil =>
          rw [lvl, if_neg (m1_ne' (by omega))]
          exact stop (fun b' _ _ => trivial)
        | cons x r =>
          have tok := hc1.1.1.2.1
          rw [lvl]
          by_cases cx : x.2.2 = 3 ∧ opL (t x.1) < 9
          · rw [if_pos cx]
            have k1 : (sy t key x).2.1 = 1 := sy_op.mpr cx
            have v1 : (sy t key x).2.2 = t x.1 := (sy_s3 cx.1).2
            by_cases ce : opL (t x.1) = level
            · rw [if_pos (by rw [ce])]
              have ht := hc1.1.2.1
              have hs1 := hc1.1.2.2
              have hq : x.1 < k := by have := tok.1; omega
              have k96 := ht.1
              rw [sh37_0 hs1, dn_e, lt_e, hc1.1.1.1.2.1, p_at hs1 hl ht (by omega), if_pos hq]
              refine c_adv hl hc1 (by omega) (fun S2 h2 f2 => ?_)
              rw [lt_e, nI_1]
              have glen := g1ok.2.2
              rw [List.length_cons] at glen hm hi
              -- the reference takes the sign
              have step : ∀ W B b, ENT level W b → cN W = nn → B.length = p → ∃ nb, run k (ts.map (sy t key)) (cc.map trS) lv W (b :: B) nn true = run k (r.map (sy t key)) ((cc ++ g1).map trS) lv1 (sg (t x.1) :: W) (nb :: B) nn true ∧ ENT (level + 1) (sg (t x.1) :: W) nb ∧ cN (sg (t x.1) :: W) = nn ∧ (3 ≤ level → nb = b) ∧ (level = 2 → nb = true) := fun W B b h1 h2' h3 => by
                obtain ⟨P, rc, b', e1, e2, e3, e4, e5, e6⟩ := sim W B b h1 h2' h3
                have s := sg_ok cx.2
                have nb2 : ¬ (opL (sy t key x).2.2 = 2 ∧ (b' :: B).headD false = true) := fun u => by
                  rw [v1, ce] at u
                  rw [if_pos u.1] at hmost
                  have := (e6 u.1).1 (by omega)
                  have u2 : b' = true := u.2
                  rw [this] at u2
                  cases u2
                refine ⟨decide (level = 2) || (decide (2 < level) && b'), ?_, ⟨Or.inr ⟨_, _, rfl, Or.inr (by omega)⟩, fun u => ?_⟩, by rw [cN, if_neg s.2.2.1, h2']; omega, fun u => ?_, fun u => by rw [decide_eq_true u]; rfl⟩
                · rw [e1, List.map_cons, run, if_neg (by decide), if_neg (fun u => by omega), if_pos ⟨k1, nb2⟩, v1, ce]
                  have st : stl (level + 1) (P ++ W) rc = (W, rc ++ P) := by
                    rw [stl_pop P W rc (fun z hz => ⟨(e3 z hz).1, (e3 z hz).2.1⟩)]
                    refine stl_stop ?_
                    rcases h1.1 with q | ⟨y, V, q1, q2⟩
                    · exact Or.inl q
                    · exact Or.inr ⟨y, V, q1, q2.elim Or.inl (fun q => Or.inr (by omega))⟩
                  rw [st, e2]
                  rfl
                · rw [decide_eq_false (show ¬ level = 2 by omega), decide_eq_false (show ¬ 2 < level by omega)]
                  rfl
                · rw [decide_eq_false (show ¬ level = 2 by omega), decide_eq_true (show 2 < level by omega), Bool.false_or, Bool.true_and]
                  exact e4 u
              refine ihL S2 r (cc ++ g1) lv1 p nn (level + 1) _ (by omega) (by omega) hp8 hn8 h2 (by rw [List.length_append]; omega) (fun S3 ts3 g3 lv3 h3 f3 g3ok sim3 => ?_) (fun S3 f f3 e3 f96 s3 sim3 => ?_)
              · rw [lt_e, show (20000 : Int32) + nI (t x.1) = nI (20000 + t x.1) from nI_add 20000 _]
                have g3len := g3ok.2.2
                refine c_write hl h3 (by rw [List.length_append, List.length_append]; omega) (fun S4 h4 f4 => ?_)
                rw [lt_e, nI_1]
                have ea : cc ++ g1 ++ g3 ++ [nI (20000 + t x.1)] = cc ++ (g1 ++ g3 ++ [nI (20000 + t x.1)]) := by simp [List.append_assoc]
                rw [ea] at h4
                refine ih (i + 1) S4 ts3 (g1 ++ g3 ++ [nI (20000 + t x.1)]) lv3 (by omega) (by omega) h4 (((f1.tr f2).tr f3).tr f4) ⟨fun v hv => ?_, fun d => ?_, ?_⟩ (fun W B b h1 h2' h3' => ?_)
                · rcases List.mem_append.mp hv with q | q
                  · rcases List.mem_append.mp q with q | q
                    · exact g1ok.1 v q
                    · exact g3ok.1 v q
                  · rw [List.mem_singleton] at q; rw [q]; exact gCd_sg cx.2
                · rw [List.map_append, List.map_append, List.append_assoc, wfL_app _ _ d (d + 1) (g1ok.2.1 d), wfL_app _ _ (d + 1) (d + 2) (g3ok.2.1 (d + 1))]
                  exact wfL_sg cx.2
                · rw [List.length_append, List.length_append, List.length_singleton]; omega
                · obtain ⟨nb, e1, e2, e3, e4, e5⟩ := step W B b h1 h2' h3'
                  obtain ⟨P3, rc3, b3, q1, q2, q3, q4, q5⟩ := sim3 (sg (t x.1) :: W) B nb e2 e3 h3'
                  refine ⟨P3 ++ [sg (t x.1)], rc3, b3, ?_, ?_, RC.app q3 ce (by omega), fun u => by rw [q4 (by omega), e4 u], q5, fun u => ⟨fun v => by omega, fun _ => by rw [q4 (by omega), e5 u]⟩⟩
                  · rw [e1, q1, List.append_assoc]
                    rfl
                  · rw [← List.append_assoc, q2, ← ea]
                    simp [sg, List.map_append]
              · rw [lt_e]
                refine x_write s3 hl (fun S4 f4 e4 s4 => ?_)
                rw [lt_e]
                have e5 : hI S4 37 10 = nI f := e4.trans e3
                obtain ⟨m', em⟩ : ∃ m', m = m' + 1 := ⟨m - 1, by omega⟩
                rw [em]
                refine x_loop e5 f96 (bad S4 f (((f1.tr f2).tr f3).tr f4) e5 f96 s4 (fun W B b h1 h2' h3' => ?_))
                obtain ⟨nb, e1, e2, e3', -, -⟩ := step W B b h1 h2' h3'
                rw [e1]
                exact sim3 (sg (t x.1) :: W) B nb e2 e3' h3'
            · rw [if_neg (fun u => ce ((nI_eq (by omega) (by omega)).mp u))]
              refine stop (fun b' q1 _ u => ?_)
              rcases q1 u with v | v
              · rw [v1] at v ⊢
                exact Or.inl (by omega)
              · exact Or.inr v
          · rw [if_neg cx, if_neg (m1_ne' (by omega))]
            exact stop (fun b' q1 _ u => absurd (sy_op.mp u) cx)
    have first : ∀ (most : Nat), (most = if level = 2 then 1 else 96) → ∀ S1 ts1 g1 lv1, CCx t k key S1 ts1 (cc ++ g1) lv1 p nn → FR S S1 → GR key ts g1 ts1 → SIML t k key (level + 1) ts cc lv p nn ts1 (cc ++ g1) lv1 → BX2_readLevel_28 ln (wpRec ln d).1 (wpRec ln d).2 post S1 37 (nI level) (nI most) := fun most hmost S1 ts1 g1 lv1 h1 f1 g1ok sim => by
      unfold BX2_readLevel_28
      have glen := g1ok.2.2
      refine ⟨ts1.length + 1, loop most hmost (ts1.length + 1) 0 S1 ts1 g1 lv1 (by omega) (by omega) h1 f1 g1ok (fun W B b q1 q2 q3 => ?_)⟩
      obtain ⟨P, rc, b', e1, e2, e3, e4, e5⟩ := sim W B b ⟨by
        rcases q1.1 with v | ⟨y, V, v1, v2⟩
        · exact Or.inl v
        · exact Or.inr ⟨y, V, v1, v2.elim Or.inl (fun w => Or.inr (by omega))⟩, fun u => q1.2 (by omega)⟩ q2 q3
      refine ⟨P, rc, b', e1, e2, fun z hz => ⟨by have := (e3 z hz).1; omega, (e3 z hz).2⟩, fun u => e4 (by omega), e5, fun u => ⟨fun _ => by rw [e4 (by omega), q1.2 (by omega)], fun v => by omega⟩⟩
    refine ihL S ts cc lv p nn (level + 1) _ (by omega) (by omega) hp8 hn8 hc h96 (fun S1 ts1 g1 lv1 h1 f1 g1ok sim => ?_) (fun S1 f f1 e1 f96 s1 sim => ?_)
    · by_cases c2 : level = 2
      · rw [if_pos (by rw [c2]; rfl)]
        exact first 1 (by rw [if_pos c2]) S1 ts1 g1 lv1 h1 f1 g1ok sim
      · rw [if_neg (show ¬ nI level = 2 from fun u => c2 ((nI_eq (b := 2) (by omega) (by decide)).mp u))]
        exact first 96 (by rw [if_neg c2]) S1 ts1 g1 lv1 h1 f1 g1ok sim
    · have fin : post S1 := bad S1 f f1 e1 f96 s1 (fun W B b q1 q2 q3 => sim W B b ⟨by
        rcases q1.1 with v | ⟨y, V, v1, v2⟩
        · exact Or.inl v
        · exact Or.inr ⟨y, V, v1, v2.elim Or.inl (fun w => Or.inr (by omega))⟩, fun u => q1.2 (by omega)⟩ q2 q3)
      unfold BX2_readLevel_28
      split
      · exact ⟨1, x_loop e1 f96 fin⟩
      · exact ⟨1, x_loop e1 f96 fin⟩
  · have e5 : level = 5 := by omega
    subst e5
    rw [if_neg (by decide)]
    refine ihP S ts cc lv p nn _ (by omega) hp8 hn8 hc h96 (fun S1 ts1 g1 lv1 h1 f1 g1ok sim => ok S1 ts1 g1 lv1 h1 f1 g1ok (fun W B b q1 q2 q3 => ?_)) (fun S1 f f1 e1 f96 s1 sim => bad S1 f f1 e1 f96 s1 (fun W B b q1 q2 q3 => ?_))
    · have tp : TOPN W := by
        rcases q1.1 with v | ⟨y, V, v1, v2⟩
        · exact Or.inl v
        · exact Or.inr ⟨y, V, v1, v2.elim Or.inl (fun w => Or.inr (by omega))⟩
      have e := sim 0 W B b tp q2 q3
      rw [List.replicate_zero, List.nil_append, List.append_nil, q2] at e
      refine ⟨[], (cc ++ g1).map trS, b, e, List.append_nil _, fun z hz => (by cases hz), fun _ => rfl, ?_⟩
      cases ts1 with
      | nil => exact trivial
      | cons x r =>
        intro u
        have := sy_op.mp u
        rw [(sy_s3 this.1).2]
        refine Or.inl ?_
        rcases opL_in this.2 with e | e | e | e | e | e | e | e | e <;> rw [e] <;> decide
    · have tp : TOPN W := by
        rcases q1.1 with v | ⟨y, V, v1, v2⟩
        · exact Or.inl v
        · exact Or.inr ⟨y, V, v1, v2.elim Or.inl (fun w => Or.inr (by omega))⟩
      exact sim 0 W B b tp q2 q3
theorem CLP {ln : Nat → Nat} {t : Nat → Nat} {k key : Nat} (hl : LN ln) (hk3 : key < 3) : ∀ d, CL ln t k key d ∧ CP ln t k key d := by
  intro d
  induction d with
  | zero => exact ⟨fun S ts cc lv p nn level post h1 h2 => by omega, fun S ts cc lv p nn post h2 => by omega⟩
  | succ d ih => exact ⟨CL_step hl ih.1 ih.2, CP_step hl hk3 ih.1 ih.2⟩
