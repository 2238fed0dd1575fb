/-! step: alike -/
theorem shV_ok {f : Nat → Nat → Int32} {T : Nat → Int32} {ch p : Nat} (h : V64 (T p)) : V64 (shV f T ch p) := by
  unfold shV
  split
  · exact ⟨0, by decide, rfl⟩
  · exact h
/-- what one shows of the charge i, as a number below 128 -/
def shN (f : Nat → Nat → Int32) (T : Nat → Nat → Int32) (p i : Nat) : Nat := ixN (shV f (T i) i p) % 128
theorem shN_e {f : Nat → Nat → Int32} {T : Nat → Nat → Int32} {p i : Nat} (h : V64 (T i p)) : shV f (T i) i p = nI (shN f T p i) ∧ shN f T p i < 128 := by
  obtain ⟨c, hc, e⟩ := shV_ok (f := f) (ch := i) h
  unfold shN
  rw [e, ixN_e (by omega), Nat.mod_eq_of_lt (by omega)]
  exact ⟨rfl, by omega⟩
theorem p_packed {ln : Nat → Nat} {N : Nat} {S : HC} {b n p : Nat} {f : Nat → Nat → Int32} {o : Option ((Nat → Int32) × Nat)} {T : Nat → Nat → Int32} {post : Int64 → HC → Prop} (hs : SH S) (hl : LN ln) (hb : LB b) (hk : LK ln N S b n f o) (h14 : n ≤ 14) (hp : p < n) (hT : ∀ ch j, ch < 8 → j < n → hI S 26 (14 * ch + j) = T ch j) (hV : ∀ ch j, V64 (T ch j)) (h : ∀ x : Int64, x.toBitVec.toNat = pkN (shN f T p) 8 → post x S) : wpX4_packed ln S 25 (nI p) post := by
  have key : ∀ m i (x : Int64), i + m = 8 → x.toBitVec.toNat = pkN (shN f T p) i → LX4_packed_5 ln post (m + 1) S 25 (nI p) x (nI i) := by
    intro m
    induction m with
    | zero =>
      intro i x hi hx
      have e : i = 8 := by omega
      subst e
      rw [LX4_packed_5]
      dsimp only
      rw [if_pos (by decide)]
      exact h x hx
    | succ m ih =>
      intro i x hi hx
      rw [LX4_packed_5]
      dsimp only
      rw [if_neg (show ¬ (8 : Int32) ≤ nI i from nI_ge (b := 8) (by omega) (by decide)), lt_e, p_shown (T := T i) hs hl hb hk h14 (by omega) hp (hT i p (by omega) hp), lt_e, lt_e, lt_e, nI_1, (shN_e (hV i p)).1]
      refine ih (i + 1) _ (by omega) ?_
      rw [pkN]
      have lt := pkN_lt (v := shN f T p) (fun i => (shN_e (hV i p)).2) i
      refine pk7 hx ?_ (shN_e (hV i p)).2
      have : (128 : Nat) ^ i ≤ 128 ^ 7 := Nat.pow_le_pow_right (by decide) (by omega)
      have e7 : (128 : Nat) ^ 7 = 2 ^ 49 := by decide
      omega
  exact ⟨9, key 8 0 0 (by omega) rfl⟩
theorem alk_pk {f : Nat → Nat → Int32} {T : Nat → Nat → Int32} {p q : Nat} {x y : Int64} (hV : ∀ ch j, V64 (T ch j)) (hx : x.toBitVec.toNat = pkN (shN f T p) 8) (hy : y.toBitVec.toNat = pkN (shN f T q) 8) : x = y ↔ alk f T p q := by
  constructor
  · intro e ch hc
    rw [e, hy] at hx
    have := pkN_inj (fun i => (shN_e (hV i q)).2) (fun i => (shN_e (hV i p)).2) 8 hx ch hc
    rw [(shN_e (hV ch p)).1, (shN_e (hV ch q)).1, this]
  · intro e
    have : pkN (shN f T p) 8 = pkN (shN f T q) 8 := pkN_eq 8 (fun j hj => by unfold shN; rw [e j hj])
    exact Int64.toBitVec_inj.mp (BitVec.eq_of_toNat_eq (by rw [hx, hy, this]))
