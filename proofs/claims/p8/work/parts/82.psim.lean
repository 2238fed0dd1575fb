/-! text: what the class reads is what the reference's reading comes to -/
def ENT (level : Nat) (W : List Int32) (b : Bool) : Prop := (W = [] ∨ ∃ x V, W = x :: V ∧ (x = -11 ∨ rk x ≤ level)) ∧ (level ≤ 2 → b = false)
def TOPN (W : List Int32) : Prop := W = [] ∨ ∃ x V, W = x :: V ∧ (x = -11 ∨ rk x < 6)
def XC (t : Nat → Nat) (key level : Nat) (b : Bool) : List (Nat × Nat × Nat) → Prop
  | [] => True
  | x :: _ => (sy t key x).2.1 = 1 → opL (sy t key x).2.2 < level ∨ (opL (sy t key x).2.2 = 2 ∧ b = true)
def RC (P : List Int32) (level : Nat) : Prop := ∀ x, x ∈ P → level + 1 ≤ rk x ∧ x ≠ -11 ∧ x ≠ -10
def SIML (t : Nat → Nat) (k key level : Nat) (ts : List (Nat × Nat × Nat)) (cc : List Int32) (lv p nn : Nat) (ts' : List (Nat × Nat × Nat)) (cc' : List Int32) (lv' : Nat) : Prop := ∀ W B b, ENT level W b → cN W = nn → B.length = p → ∃ P rc b', run k (ts.map (sy t key)) (cc.map trS) lv W (b :: B) nn true = run k (ts'.map (sy t key)) rc lv' (P ++ W) (b' :: B) nn false ∧ rc ++ P = cc'.map trS ∧ RC P level ∧ (3 ≤ level → b' = b) ∧ XC t key level b' ts'
def FLL (t : Nat → Nat) (k key level : Nat) (ts : List (Nat × Nat × Nat)) (cc : List Int32) (lv p nn f : Nat) : Prop := ∀ W B b, ENT level W b → cN W = nn → B.length = p → run k (ts.map (sy t key)) (cc.map trS) lv W (b :: B) nn true = .inl f
def SIMP (t : Nat → Nat) (k key : Nat) (ts : List (Nat × Nat × Nat)) (cc : List Int32) (lv p nn : Nat) (ts' : List (Nat × Nat × Nat)) (cc' : List Int32) (lv' : Nat) : Prop := ∀ j W B b, TOPN W → cN (List.replicate j (-10) ++ W) = nn → B.length = p → run k (ts.map (sy t key)) (cc.map trS) lv (List.replicate j (-10) ++ W) (b :: B) nn true = run k (ts'.map (sy t key)) (cc'.map trS ++ List.replicate j (-10)) lv' W (b :: B) (cN W) false
def FLP (t : Nat → Nat) (k key : Nat) (ts : List (Nat × Nat × Nat)) (cc : List Int32) (lv p nn f : Nat) : Prop := ∀ j W B b, TOPN W → cN (List.replicate j (-10) ++ W) = nn → B.length = p → run k (ts.map (sy t key)) (cc.map trS) lv (List.replicate j (-10) ++ W) (b :: B) nn true = .inl f
/-- what was read behind: it leaves one number, and is no longer than what was used up -/
def GR (key : Nat) (ts : List (Nat × Nat × Nat)) (g : List Int32) (ts' : List (Nat × Nat × Nat)) : Prop := (∀ v, v ∈ g → gCd key v) ∧ (∀ d, wfL (g.map trS) d = some (d + 1)) ∧ g.length + ts'.length ≤ ts.length
def CL (ln : Nat → Nat) (t : Nat → Nat) (k key d : Nat) : Prop := ∀ (S : HC) (ts : List (Nat × Nat × Nat)) (cc : List Int32) (lv p nn level : Nat) (post : HC → Prop), level ≤ 5 → 7 - level + 7 * (8 - p) + (8 - nn) ≤ d → p ≤ 8 → nn ≤ 8 → CCx t k key S ts cc lv p nn → cc.length + ts.length ≤ 96 → (∀ S' ts' g lv', CCx t k key S' ts' (cc ++ g) lv' p nn → FR S S' → GR key ts g ts' → SIML t k key level ts cc lv p nn ts' (cc ++ g) lv' → post S') → (∀ S' f, FR S S' → hI S' 37 10 = nI f → f ≤ 96 → SH S' → FLL t k key level ts cc lv p nn f → post S') → (wpRec ln d).1 S 37 (nI level) post
def CP (ln : Nat → Nat) (t : Nat → Nat) (k key d : Nat) : Prop := ∀ (S : HC) (ts : List (Nat × Nat × Nat)) (cc : List Int32) (lv p nn : Nat) (post : HC → Prop), 1 + 7 * (8 - p) + (8 - nn) ≤ d → p ≤ 8 → nn ≤ 8 → CCx t k key S ts cc lv p nn → cc.length + ts.length ≤ 96 → (∀ S' ts' g lv', CCx t k key S' ts' (cc ++ g) lv' p nn → FR S S' → GR key ts g ts' → SIMP t k key ts cc lv p nn ts' (cc ++ g) lv' → post S') → (∀ S' f, FR S S' → hI S' 37 10 = nI f → f ≤ 96 → SH S' → FLP t k key ts cc lv p nn f → post S') → (wpRec ln d).2 S 37 post
theorem run_nil {k : Nat} {c : List Int32} {a : Nat} {W : List Int32} {B : List Bool} {n : Nat} {w : Bool} : run k [] c a W B n w = if w = true then .inl k else if B.length ≤ 1 then .inr ((stl 0 W c).2, a) else .inl k := rfl
theorem stl_nots {j : Nat} {W c : List Int32} (h : TOPN W) : stl 6 (List.replicate j (-10) ++ W) c = (W, c ++ List.replicate j (-10)) := by
  rw [stl_pop (List.replicate j (-10)) W c (fun x hx => by rw [List.eq_of_mem_replicate hx]; decide)]
  exact stl_stop h
/-- nothing goes on here -/
theorem run_stop {t : Nat → Nat} {k key : Nat} {ts : List (Nat × Nat × Nat)} {c : List Int32} {a : Nat} {W : List Int32} {b : Bool} {B : List Bool} {n : Nat} (hx : XC t key 0 b ts) (h1 : ts = [] → B ≠ []) (h2 : ∀ x r, ts = x :: r → (sy t key x).2.1 = 4 → B = []) : run k (ts.map (sy t key)) c a W (b :: B) n false = .inl (hdp k ts) := by
  cases ts with
  | nil =>
    have hB := h1 rfl
    rw [List.map_nil, run_nil, if_neg (by decide), if_neg]
    · rfl
    · intro u
      cases B with
      | nil => exact hB rfl
      | cons b2 B => simp at u
  | cons x r =>
    rw [List.map_cons, run, if_neg (by decide)]
    have e1 : (sy t key x).1 = x.1 := rfl
    rw [if_neg (fun u => by
      have := h2 x r rfl u.1
      rw [this] at u
      simp at u), if_neg (fun u => by
      rcases hx u.1 with q | q
      · omega
      · exact u.2 ⟨q.1, by rw [q.2]; rfl⟩)]
    rfl
theorem sy_s3 {t : Nat → Nat} {key : Nat} {x : Nat × Nat × Nat} (h : x.2.2 = 3) : (sy t key x).2.1 = (if t x.1 = 33 then 2 else if t x.1 = 40 then 3 else if t x.1 = 41 then 4 else if opL (t x.1) < 9 then 1 else 5) ∧ (sy t key x).2.2 = t x.1 := by
  unfold sy
  dsimp only
  rw [if_pos h, if_pos h]
  exact ⟨rfl, rfl⟩
theorem sy_n3 {t : Nat → Nat} {key : Nat} {x : Nat × Nat × Nat} (h : x.2.2 ≠ 3) : (sy t key x).2.1 = 0 ∨ (sy t key x).2.1 = 5 := by
  unfold sy
  dsimp only
  rw [if_neg h]
  repeat' split
  all_goals first | exact Or.inl rfl | exact Or.inr rfl
theorem sy_op {t : Nat → Nat} {key : Nat} {x : Nat × Nat × Nat} : (sy t key x).2.1 = 1 ↔ x.2.2 = 3 ∧ opL (t x.1) < 9 := by
  by_cases c : x.2.2 = 3
  · rw [(sy_s3 c).1]
    constructor
    · intro u
      refine ⟨c, ?_⟩
      by_cases q : opL (t x.1) < 9
      · exact q
      · exfalso
        repeat' split at u
        all_goals omega
    · intro u
      rcases opL_in u.2 with e | e | e | e | e | e | e | e | e <;> rw [e] <;> decide
  · rcases sy_n3 (t := t) (key := key) c with e | e <;> rw [e] <;> exact ⟨fun u => by omega, fun u => absurd u.1 c⟩
theorem sy_k {t : Nat → Nat} {key c kd : Nat} {x : Nat × Nat × Nat} (hc : (c = 33 ∧ kd = 2) ∨ (c = 40 ∧ kd = 3) ∨ (c = 41 ∧ kd = 4)) : (sy t key x).2.1 = kd ↔ x.2.2 = 3 ∧ t x.1 = c := by
  by_cases h : x.2.2 = 3
  · rw [(sy_s3 h).1]
    constructor
    · intro u
      refine ⟨h, ?_⟩
      repeat' split at u
      all_goals omega
    · intro u
      rw [u.2]
      rcases hc with ⟨e1, e2⟩ | ⟨e1, e2⟩ | ⟨e1, e2⟩ <;> subst e1 <;> subst e2 <;> decide
  · rcases sy_n3 (t := t) (key := key) h with e | e <;> rw [e] <;> exact ⟨fun u => by omega, fun u => absurd u.1 h⟩
theorem gCd_leaf {t : Nat → Nat} {key k : Nat} {x : Nat × Nat × Nat} (tok : TOK t k x.1 x.2.1 x.2.2) (h : (sy t key x).2.1 = 0) : (sy t key x).2.2 ≤ 10002 ∧ gCd key (nI (sy t key x).2.2) := by
  rcases sy_leaf tok h with ⟨_, _, _, e4⟩ | ⟨_, e2, e3⟩
  · refine ⟨by omega, nI_pos' (by omega), fun _ => ?_⟩
    rw [trS_low (by omega)]
    exact nI_le (b := 10001) (by omega) (by decide)
  · have := nmX_in e2.2
    refine ⟨by omega, nI_pos' (by omega), fun u => ?_⟩
    rw [trS_low (by omega)]
    exact nI_le (b := 10001) (by omega) (by decide)
theorem wfL_leaf {a d : Nat} (h : a ≤ 10002) : wfL [nI a] d = some (d + 1) := by
  rw [wfL, wfS, if_pos (nI_pos' (by omega)), if_pos (show nI a ≤ 10002 from nI_le (b := 10002) h (by decide))]
  rfl
theorem wfL_not {d : Nat} : wfL [-10] (d + 1) = some (d + 1) := by
  rw [wfL, wfS, if_neg (by decide), if_pos rfl, if_pos (by omega)]
  rfl
theorem wfL_sg {b d : Nat} (h : opL b < 9) : wfL [sg b] (d + 2) = some (d + 1) := by
  have s := sg_ok h
  rw [wfL, wfS, if_neg (Int32.not_le.mpr s.2.2.2.1), if_neg s.2.2.1, if_pos s.2.2.2.2, if_pos (by omega)]
  rfl
theorem gCd_sg {b key : Nat} (h : opL b < 9) : gCd key (nI (20000 + b)) := by
  refine ⟨nI_pos' (by rcases opL_in h with e | e | e | e | e | e | e | e | e <;> omega), fun _ => ?_⟩
  rcases opL_in h with e | e | e | e | e | e | e | e | e <;> subst e <;> decide
