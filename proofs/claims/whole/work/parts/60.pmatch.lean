/-! step: match -/
def jv (n : Nat) (f : Nat → Nat → Int32) (o : Option ((Nat → Int32) × Nat)) (ch : Int32) (T : Nat → Int32) (a b : Nat) : Int32 := JF o (T a) (if herP n f b then T b else T a) ch
def mV (n : Nat) (f : Nat → Nat → Int32) (o : Option ((Nat → Int32) × Nat)) (ch : Int32) (T : Nat → Int32) (p j : Nat) : Int32 := if f 3 p = 0 then jv n f o ch T p j else jv n f o ch T j p
theorem mV_ok {n : Nat} {f : Nat → Nat → Int32} {o : Option ((Nat → Int32) × Nat)} {ch : Int32} {T : Nat → Int32} {p j : Nat} : V64 (mV n f o ch T p j) := by
  unfold mV jv
  split
  · exact JF_ok _ _ _ _
  · exact JF_ok _ _ _ _
def mtF (n : Nat) (f : Nat → Nat → Int32) (o : Option ((Nat → Int32) × Nat)) (ch : Int32) (T : Nat → Int32) (p : Nat) : Nat → Int32 × Int32
  | 0 => (-1, -1)
  | j + 1 => if f 3 j = f 3 p then mtF n f o ch T p j else if mV n f o ch T p j ≤ (mtF n f o ch T p j).2 then mtF n f o ch T p j else (nI j, mV n f o ch T p j)
theorem mtF_ok {n : Nat} {f : Nat → Nat → Int32} {o : Option ((Nat → Int32) × Nat)} {ch : Int32} {T : Nat → Int32} {p : Nat} : ∀ j, j < 100 → mtF n f o ch T p j = (-1, -1) ∨ ∃ t v, t < 100 ∧ mtF n f o ch T p j = (nI t, v) ∧ V64 v := by
  intro j
  induction j with
  | zero => intro _; exact Or.inl rfl
  | succ j ih =>
    intro hj
    rw [mtF]
    by_cases e1 : f 3 j = f 3 p
    · rw [if_pos e1]; exact ih (by omega)
    rw [if_neg e1]
    by_cases e2 : mV n f o ch T p j ≤ (mtF n f o ch T p j).2
    · rw [if_pos e2]; exact ih (by omega)
    · rw [if_neg e2]; exact Or.inr ⟨j, _, by omega, rfl, mV_ok⟩
