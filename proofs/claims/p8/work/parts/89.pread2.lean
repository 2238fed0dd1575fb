/-! text: the tape read, the class's side -/
theorem lx_len {t : Nat → Nat} {k : Nat} : ∀ n p g, p ≤ k → (lx t k n p g).length ≤ k - p := by
  intro n
  induction n with
  | zero => intro p g hp; rw [lx]; simp
  | succ n ih =>
    intro p g hp
    rw [lx]
    by_cases c : sk t k (k - p) p < k
    · rw [if_pos c, List.length_cons]
      obtain ⟨tok, tp⟩ := tk1_ok (t := t) (k := k) (p := p) (g := g) c
      have h1 := tok.1
      have := ih (tk1 t k p g).2.1 (decide ((tk1 t k p g).2.2 ≠ 3)) h1.2
      omega
    · rw [if_neg c]; simp
def GOOD (t : Nat → Nat) (k key : Nat) (cc : List Int32) (lv : Nat) : Prop := ∃ x r, lx t k k 0 false = x :: r ∧ kf t (lx t k k 0 false) = key ∧ run k (r.map (sy t key)) [] 0 [] [false] 0 true = .inr (cc.map trS, lv)
def FAIL (t : Nat → Nat) (k f : Nat) : Prop := (¬ kf t (lx t k k 0 false) < 3 ∧ f = hdp k (lx t k k 0 false)) ∨ ∃ x r, lx t k k 0 false = x :: r ∧ kf t (lx t k k 0 false) < 3 ∧ run k (r.map (sy t (kf t (lx t k k 0 false)))) [] 0 [] [false] 0 true = .inl f
theorem kf_1 {t : Nat → Nat} {x : Nat × Nat × Nat} {r : List (Nat × Nat × Nat)} (h : kf t (x :: r) < 3) : x.2.2 = 1 := by
  rw [kf] at h
  by_cases c0 : kwP t 0 x
  · exact c0.1
  rw [if_neg c0] at h
  by_cases c1 : kwP t 1 x
  · exact c1.1
  rw [if_neg c1] at h
  by_cases c2 : kwP t 2 x
  · exact c2.1
  rw [if_neg c2] at h
  omega
theorem c_read {ln : Nat → Nat} {t : Nat → Nat} {k : Nat} {S : HC} {post : HC → Prop} (hs : SH S) (hl : LN ln) (ht : TP S t k) (good : ∀ S' key cc lv, FR S S' → SH S' → key < 3 → GOOD t k key cc lv → (hI S' 37 10 = -1 ∧ hI S' 37 4 = nI key ∧ hI S' 37 7 = nI lv) → (hI S' 37 6 = nI cc.length ∧ ∀ i, i < cc.length → hI S' 40 i = cc.getD i 0) → (∀ v, v ∈ cc → gCd key v) → wfL (cc.map trS) 0 = some 1 → cc.length ≤ 96 → post S') (bad : ∀ S' f, FR S S' → SH S' → hI S' 37 10 = nI f → f ≤ 96 → FAIL t k f → post S') : wpX2_readTape ln S 37 post := by
  have h96 := ht.1
  unfold wpX2_readTape
  simp only [lt_e]
  generalize hS1 : sI (sI (sI (sI (sI (sI (sI (sI S 37 1 0) 37 2 0) 37 3 0) 37 6 0) 37 7 0) 37 8 0) 37 9 0) 37 10 (-1) = S1
  have fr1 : FR S S1 := by
    rw [← hS1]
    exact ((((((FR.s37.tr FR.s37).tr FR.s37).tr FR.s37).tr FR.s37).tr FR.s37).tr FR.s37).tr FR.s37
  have f1 : hI S1 37 1 = 0 := by rw [← hS1, hI_ne (by decide), hI_ne (by decide), hI_ne (by decide), hI_ne (by decide), hI_ne (by decide), hI_ne (by decide), hI_ne (by decide), hI_self]
  have f3 : hI S1 37 3 = 0 := by rw [← hS1, hI_ne (by decide), hI_ne (by decide), hI_ne (by decide), hI_ne (by decide), hI_ne (by decide), hI_self]
  have f6 : hI S1 37 6 = 0 := by rw [← hS1, hI_ne (by decide), hI_ne (by decide), hI_ne (by decide), hI_ne (by decide), hI_self]
  have f7 : hI S1 37 7 = 0 := by rw [← hS1, hI_ne (by decide), hI_ne (by decide), hI_ne (by decide), hI_self]
  have f8 : hI S1 37 8 = 0 := by rw [← hS1, hI_ne (by decide), hI_ne (by decide), hI_self]
  have f9 : hI S1 37 9 = 0 := by rw [← hS1, hI_ne (by decide), hI_self]
  have f10 : hI S1 37 10 = -1 := by rw [← hS1, hI_self]
  have hs1 : SH S1 := hs.of (fun _ _ => fr1.2 _ _)
  have ht1 : TP S1 t k := ht.ag (fun r i u => fr1.1 r i (by omega) (by omega))
  refine p_adv (s0 := 0) (p := 0) (n := k) hs1 hl ht1 f1 (by decide) f3 (Nat.zero_le _) (by omega) (fun S2 ct2 fa2 => ?_)
  rw [show decide ((0 : Nat) = 1 ∨ (0 : Nat) = 2) = false from rfl] at ct2
  have hs2 := fa2.sh hs1
  have ht2 := fa2.tp ht1
  have len := lx_len (t := t) (k := k) k 0 false (Nat.zero_le _)
  have fr2 := fr1.tr fa2.fr
  refine c_key hs2 hl ht2 ct2 ?_
  rw [hI_self]
  by_cases ck : kf t (lx t k k 0 false) < 3
  · rw [if_pos ck, if_pos (nI_pos' (by omega))]
    cases e : lx t k k 0 false with
    | nil => rw [e, kf] at ck; omega
    | cons x r =>
      rw [e] at ct2 ck len
      rw [List.length_cons] at len
      have x1 := kf_1 ck
      have c3 : CCx t k (kf t (x :: r)) (sI S2 37 4 (nI (kf t (x :: r)))) (x :: r) [] 0 0 0 := ⟨⟨ct2.ag (fun i u => hI_ne (by omega)), ht2.ag (fun r i u => hI_row (by omega)), hs2.sI _ _ _⟩, ⟨by rw [hI_ne (by decide), fa2.1 _ _ (by omega)]; exact f10, hI_self _ _ _ _⟩, ⟨by rw [hI_ne (by decide), fa2.1 _ _ (by omega)]; exact f6, fun i hi => absurd hi (by simp)⟩, by rw [hI_ne (by decide), fa2.1 _ _ (by omega)]; exact f7, by rw [hI_ne (by decide), fa2.1 _ _ (by omega)]; exact f8, by rw [hI_ne (by decide), fa2.1 _ _ (by omega)]; exact f9⟩
      refine c_adv hl c3 (by omega) (fun S4 c4 fr4 => ?_)
      have fr4' := (fr2.tr (FR.s37 (i := 4))).tr fr4
      show (wpRec ln 80).1 S4 37 (nI 0) _
      refine (CLP hl ck 80).1 S4 r [] 0 0 0 0 _ (by omega) (by omega) (by omega) (by omega) c4 (by rw [List.length_nil]; omega) (fun S5 ts5 g lv5 c5 fr5 g5 sim => ?_) (fun S5 f fr5 e5 f96 s5 sim => ?_)
      · obtain ⟨P, rc, b', e1, e2, e3, e4, e6⟩ := sim [] [] false ⟨Or.inl rfl, fun _ => rfl⟩ rfl rfl
        rw [List.nil_append] at c5 e2
        rw [List.append_nil] at e1
        cases ts5 with
        | nil =>
          rw [c5.1.1.1, if_pos rfl]
          have glen := g5.2.2
          rw [List.length_nil] at glen
          refine good S5 (kf t (x :: r)) g lv5 (fr4'.tr fr5) c5.1.2.2 ck ⟨x, r, e, by rw [e], ?_⟩ ⟨c5.2.1.1, c5.2.1.2, c5.2.2.2.1⟩ c5.2.2.1 g5.1 (g5.2.1 0) (by omega)
          rw [List.map_nil] at e1
          rw [e1, List.map_nil, run_nil, if_neg (by decide), if_pos (show [b'].length ≤ 1 from Nat.le_refl 1)]
          have sp := stl_pop (r := 0) P [] rc (fun z hz => ⟨Nat.zero_le _, (e3 z hz).2.1⟩)
          rw [List.append_nil] at sp
          rw [sp, stl, e2]
        | cons y r5 =>
          have s5 := c5.1.1.2.1.2.1
          rw [c5.1.1.1.1, if_neg (nI_ne0 (by omega) (by omega))]
          refine c_fail c5 (fun S6 fr6 e7 s6 => bad S6 (hdp k (y :: r5)) ((fr4'.tr fr5).tr fr6) s6 e7 (hdp_le c5) (Or.inr ⟨x, r, e, by rw [e]; exact ck, ?_⟩))
          rw [e]
          rw [List.map_nil] at e1
          rw [e1]
          exact run_stop e6 (fun q => by cases q) (fun _ _ _ _ => rfl)
      · have ef : FAIL t k f := Or.inr ⟨x, r, e, by rw [e]; exact ck, by rw [e]; exact sim [] [] false ⟨Or.inl rfl, fun _ => rfl⟩ rfl rfl⟩
        split
        · exact bad S5 f (fr4'.tr fr5) s5 e5 f96 ef
        · exact x_fail e5 f96 (bad S5 f (fr4'.tr fr5) s5 e5 f96 ef)
  · rw [if_neg ck, if_neg (by decide)]
    unfold wpX2_fail
    simp only [lt_e]
    rw [hI_ne (by decide), fa2.1 37 10 (by omega), f10, if_neg (by decide), hI_ne (by decide), ct2.hd.1]
    have hd := ct2.hd.2
    exact bad _ (hdp k (lx t k k 0 false)) (fr2.tr (FR.s37.tr FR.s37)) ((hs2.sI _ _ _).sI _ _ _) (hI_self _ _ _ _) (by omega) (Or.inl ⟨ck, rfl⟩)
