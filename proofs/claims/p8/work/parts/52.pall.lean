/-! shields: all the charges worked out, both sides -/
def AO (S S' : HC) (n i : Nat) (T : Nat → Nat → Int32) : Prop := (∀ q k, q ≠ 26 → q ≠ 28 → hI S' q k = hI S q k) ∧ (∀ ch j, ch < i → j < n → hI S' 26 (14 * ch + j) = T ch j) ∧ ∀ q k, hR S' q k = hR S q k
theorem p_allOut {ln : Nat → Nat} {N : Nat} {S : HC} {b n : Nat} {f : Nat → Nat → Int32} {o : Option ((Nat → Int32) × Nat)} {post : HC → Prop} (hs : SH S) (hl : LN ln) (hb : LB b) (hk : LK ln N S b n f o) (hv : VP n f) (h14 : n ≤ 14) (h : ∀ S', AO S S' n 8 (fun ch => ptT n f o (nI ch) n) → post S') : ∃ k, LX4_workOutAll_7 ln post k S 25 0 := by
  have key : ∀ m i S', i + m = 8 → AO S S' n i (fun ch => ptT n f o (nI ch) n) → LX4_workOutAll_7 ln post (m + 1) S' 25 (nI i) := by
    intro m
    induction m with
    | zero =>
      intro i S' hi hw
      have e : i = 8 := by omega
      subst e
      rw [LX4_workOutAll_7]
      dsimp only
      rw [if_pos (by decide)]
      exact h S' hw
    | succ m ih =>
      intro i S' hi hw
      rw [LX4_workOutAll_7]
      dsimp only
      rw [if_neg (show ¬ (8 : Int32) ≤ nI i from nI_ge (b := 8) (by omega) (by decide))]
      refine p_workOut (hs.of (fun _ _ => hw.2.2 _ _)) hl hb (hk.ag hb hw.1 hw.2.2) hv h14 (by omega) (fun S1 w1 => ?_)
      rw [lt_e, nI_1]
      refine ih (i + 1) S1 (by omega) ⟨fun q k u1 u2 => by rw [w1.1 q k u1 u2, hw.1 q k u1 u2], fun ch j u1 u2 => ?_, fun q k => by rw [w1.2.2.2, hw.2.2]⟩
      by_cases e : ch = i
      · subst e; exact w1.2.2.1 j u2
      · rw [w1.2.1 _ (by omega)]; exact hw.2.1 ch j (by omega) u2
  exact ⟨9, key 8 0 S (by omega) ⟨fun _ _ _ _ => rfl, fun _ _ u _ => absurd u (by omega), fun _ _ => rfl⟩⟩
def AM (S S' : HC) (n i : Nat) (T : Nat → Nat → Int32) : Prop := MC S S' ∧ ∀ ch j, ch < i → j < n → hI S' 72 (8 * j + ch) = T ch j
theorem p_worksAll {ln : Nat → Nat} {N : Nat} {S : HC} {b n : Nat} {f : Nat → Nat → Int32} {o : Option ((Nat → Int32) × Nat)} {post : HC → Prop} (hs : SH S) (hl : LN ln) (hk : MK ln N S b n f o) (hv : VP n f) (h14 : n ≤ 14) (h : ∀ S', AM S S' n 8 (fun ch => ptT n f o (nI ch) n) → post S') : wpX8_worksAll ln S 68 post := by
  have key : ∀ m i S', i + m = 8 → AM S S' n i (fun ch => ptT n f o (nI ch) n) → LX8_worksAll_2 ln post (m + 1) S' 68 (nI i) := by
    intro m
    induction m with
    | zero =>
      intro i S' hi hw
      have e : i = 8 := by omega
      subst e
      rw [LX8_worksAll_2]
      dsimp only
      rw [if_pos (by decide)]
      exact h S' hw
    | succ m ih =>
      intro i S' hi hw
      rw [LX8_worksAll_2]
      dsimp only
      rw [if_neg (show ¬ (8 : Int32) ≤ nI i from nI_ge (b := 8) (by omega) (by decide))]
      refine p_worksOf (hw.1.sh hs) hl (hk.ag hw.1) hv h14 (by omega) (fun S1 w1 => ?_)
      rw [lt_e, nI_1]
      refine ih (i + 1) S1 (by omega) ⟨hw.1.tr w1.1, fun ch j u1 u2 => ?_⟩
      by_cases e : ch = i
      · subst e; exact w1.2.1 j u2
      · rw [w1.2.2 _ (by omega)]; exact hw.2 ch j (by omega) u2
  exact ⟨9, key 8 0 S (by omega) ⟨MC.rf S, fun _ _ u _ => absurd u (by omega)⟩⟩
/-- all that one shows: the same of two -/
abbrev alk (f : Nat → Nat → Int32) (T : Nat → Nat → Int32) (p q : Nat) : Prop := ∀ ch, ch < 8 → shV f (T ch) ch p = shV f (T ch) ch q
theorem p_areAlike {ln : Nat → Nat} {N : Nat} {S : HC} {b n p q : Nat} {f : Nat → Nat → Int32} {o : Option ((Nat → Int32) × Nat)} {T : Nat → Nat → Int32} {post : Int32 → HC → Prop} (hs : SH S) (hl : LN ln) (hk : MK ln N S b n f o) (h14 : n ≤ 14) (hp : p < n) (hq : q < n) (hT : ∀ ch j, ch < 8 → j < n → hI S 72 (8 * j + ch) = T ch j) (h1 : alk f T p q → post 1 S) (h0 : ¬ alk f T p q → post 0 S) : wpX8_areAlike ln S 68 (nI p) (nI q) post := by
  have k0 : ∀ m i, i + m = 8 → post 0 S → LX8_areAlike_5 ln post (m + 1) S 68 (nI p) (nI q) 0 (nI i) := by
    intro m
    induction m with
    | zero =>
      intro i hi hp
      have e : i = 8 := by omega
      subst e
      rw [LX8_areAlike_5]
      dsimp only
      rw [if_pos (by decide), rb_e0]
      exact hp
    | succ m ih =>
      intro i hi hp
      rw [LX8_areAlike_5]
      dsimp only
      unfold BX8_areAlike_37 BX8_areAlike_38
      rw [if_neg (show ¬ (8 : Int32) ≤ nI i from nI_ge (b := 8) (by omega) (by decide)), if_pos rfl, lt_e, nI_1]
      exact ih (i + 1) (by omega) hp
  have key : ∀ m i, i + m = 8 → (∀ ch, ch < i → shV f (T ch) ch p = shV f (T ch) ch q) → LX8_areAlike_5 ln post (m + 1) S 68 (nI p) (nI q) 1 (nI i) := by
    intro m
    induction m with
    | zero =>
      intro i hi ha
      have e : i = 8 := by omega
      subst e
      rw [LX8_areAlike_5]
      dsimp only
      rw [if_pos (by decide), rb_e1]
      exact h1 ha
    | succ m ih =>
      intro i hi ha
      rw [LX8_areAlike_5]
      dsimp only
      unfold BX8_areAlike_37 BX8_areAlike_38
      rw [if_neg (show ¬ (8 : Int32) ≤ nI i from nI_ge (b := 8) (by omega) (by decide)), if_neg (by decide), p_borne hs hl hk h14 (by omega) hp (hT i p (by omega) hp), p_borne hs hl hk h14 (by omega) hq (hT i q (by omega) hq), lt_e, lt_e, nI_1]
      by_cases e : shV f (T i) i p = shV f (T i) i q
      · rw [if_pos e]
        refine ih (i + 1) (by omega) (fun ch u => ?_)
        rcases (show ch < i ∨ ch = i by omega) with v | rfl
        · exact ha ch v
        · exact e
      · rw [if_neg e]
        exact k0 m (i + 1) (by omega) (h0 (fun u => e (u i (by omega))))
  exact ⟨9, key 8 0 (by omega) (fun _ u => absurd u (by omega))⟩
