/-! text: what words and signs are to both readers; the reference's reading as a function -/
def opL (b : Nat) : Nat := if b = 124 then 0 else if b = 38 then 1 else if b = 60 ∨ b = 61 ∨ b = 62 then 2 else if b = 43 ∨ b = 45 then 3 else if b = 42 ∨ b = 47 then 4 else 9
theorem opL_in {b : Nat} (h : opL b < 9) : b = 124 ∨ b = 38 ∨ b = 60 ∨ b = 61 ∨ b = 62 ∨ b = 43 ∨ b = 45 ∨ b = 42 ∨ b = 47 := by
  unfold opL at h
  repeat' split at h
  all_goals omega
def nmX (key b : Nat) : Nat := if key = 0 then (if b = 102 then 0 else if b = 109 then 1 else if b = 110 then 2 else 9) else if key = 1 then (if b = 121 then 0 else if b = 112 then 1 else 9) else (if b = 97 then 0 else if b = 98 then 1 else 9)
theorem nmX_in {key b : Nat} (h : nmX key b < 9) : nmX key b ≤ 2 ∧ (1 ≤ key → nmX key b ≤ 1) := by
  unfold nmX at h ⊢
  repeat' split at h
  all_goals (repeat' split) <;> omega
/-- what a word or sign is: where it stands; 0 a NUMBER or NAME, 1 a sign between, 2 a not, 3 and 4 brackets, 5 nothing; its number -/
def sy (t : Nat → Nat) (key : Nat) (x : Nat × Nat × Nat) : Nat × Nat × Nat := (x.1, if x.2.2 = 3 then (if t x.1 = 33 then 2 else if t x.1 = 40 then 3 else if t x.1 = 41 then 4 else if opL (t x.1) < 9 then 1 else 5) else if x.2.2 = 2 then (if x.2.1 - x.1 ≤ 4 then 0 else 5) else if x.2.2 = 1 then (if x.2.1 - x.1 = 1 ∧ nmX key (t x.1) < 9 then 0 else 5) else 5, if x.2.2 = 3 then t x.1 else if x.2.2 = 2 then nmF t x.1 (x.2.1 - x.1) else 10000 + nmX key (t x.1))
def sg (b : Nat) : Int32 := trS (nI (20000 + b))
def rk (x : Int32) : Nat := if x = -1 then 1 else if x = -2 then 2 else if x < -5 then (if x < -7 then (if x < -9 then 6 else 5) else 4) else 3
theorem sg_ok {b : Nat} (h : opL b < 9) : rk (sg b) = opL b + 1 ∧ sg b ≠ -11 ∧ sg b ≠ -10 ∧ sg b < 0 ∧ -9 ≤ sg b := by
  rcases opL_in h with e | e | e | e | e | e | e | e | e <;> subst e <;> decide
theorem p_rank {ln : Nat → Nat} {S : HC} {x : Int32} {post : Int32 → HC → Prop} : wpX8_rank ln S x post = post (nI (rk x)) S := by
  unfold wpX8_rank rk
  repeat' split
  all_goals rfl
/-- signs that wait come to the code while they bind as tightly as r -/
def stl (r : Nat) : List Int32 → List Int32 → List Int32 × List Int32
  | [], c => ([], c)
  | x :: W, c => if x = -11 ∨ rk x < r then (x :: W, c) else stl r W (c ++ [x])
def cN : List Int32 → Nat
  | [] => 0
  | x :: W => (if x = -10 then 1 else 0) + cN W
def run (k : Nat) : List (Nat × Nat × Nat) → List Int32 → Nat → List Int32 → List Bool → Nat → Bool → Nat ⊕ (List Int32 × Nat)
  | [], c, a, W, B, _, w => if w = true then .inl k else if B.length ≤ 1 then .inr ((stl 0 W c).2, a) else .inl k
  | x :: ts, c, a, W, B, n, w => if w = true then (if x.2.1 = 2 ∧ n < 8 then run k ts c a (-10 :: W) B (cN (-10 :: W)) true else if x.2.1 = 3 ∧ B.length ≤ 8 then run k ts c a (-11 :: W) (false :: B) (cN (-11 :: W)) true else if x.2.1 = 0 then run k ts (stl 6 W (c ++ [nI x.2.2])).2 (a + 1) (stl 6 W (c ++ [nI x.2.2])).1 B (cN (stl 6 W (c ++ [nI x.2.2])).1) false else .inl x.1) else (if x.2.1 = 4 ∧ 1 < B.length then run k ts (stl 6 (stl 0 W c).1.tail (stl 0 W c).2).2 a (stl 6 (stl 0 W c).1.tail (stl 0 W c).2).1 B.tail (cN (stl 6 (stl 0 W c).1.tail (stl 0 W c).2).1) false else if x.2.1 = 1 ∧ ¬ (opL x.2.2 = 2 ∧ B.headD false = true) then run k ts (stl (opL x.2.2 + 1) W c).2 a (sg x.2.2 :: (stl (opL x.2.2 + 1) W c).1) ((decide (opL x.2.2 = 2) || (decide (2 < opL x.2.2) && B.headD false)) :: B.tail) n true else .inl x.1)
theorem stl_stop {r : Nat} {W c : List Int32} (h : W = [] ∨ ∃ x V, W = x :: V ∧ (x = -11 ∨ rk x < r)) : stl r W c = (W, c) := by
  rcases h with rfl | ⟨x, V, rfl, h⟩
  · rfl
  · rw [stl, if_pos h]
theorem stl_pop {r : Nat} : ∀ (P W c : List Int32), (∀ x, x ∈ P → r ≤ rk x ∧ x ≠ -11) → stl r (P ++ W) c = stl r W (c ++ P) := by
  intro P
  induction P with
  | nil => intro W c _; rw [List.nil_append, List.append_nil]
  | cons x P ih =>
    intro W c h
    obtain ⟨h1, h2⟩ := h x List.mem_cons_self
    rw [List.cons_append, stl, if_neg (fun q => q.elim h2 (fun q => by omega)), ih W (c ++ [x]) (fun y hy => h y (List.mem_cons_of_mem _ hy)), List.append_assoc]
    rfl
theorem cN_app : ∀ P W : List Int32, cN (P ++ W) = cN P + cN W := by
  intro P
  induction P with
  | nil => intro W; simp [cN]
  | cons x P ih => intro W; rw [List.cons_append, cN, cN, ih]; omega
theorem cN_0 : ∀ P : List Int32, (∀ x, x ∈ P → x ≠ -10) → cN P = 0 := by
  intro P
  induction P with
  | nil => intro _; rfl
  | cons x P ih => intro h; rw [cN, if_neg (h x List.mem_cons_self), ih (fun y hy => h y (List.mem_cons_of_mem _ hy))]
/-- a code that leaves one number, as a list -/
def wfL : List Int32 → Nat → Option Nat
  | [], d => some d
  | x :: l, d => match wfS d x with
    | none => none
    | some d2 => wfL l d2
theorem wfL_app : ∀ (a b : List Int32) (d d2 : Nat), wfL a d = some d2 → wfL (a ++ b) d = wfL b d2 := by
  intro a
  induction a with
  | nil => intro b d d2 h; rw [wfL] at h; rw [List.nil_append, Option.some.inj h]
  | cons x a ih =>
    intro b d d2 h
    rw [wfL] at h
    rw [List.cons_append, wfL]
    cases e : wfS d x with
    | none => rw [e] at h; cases h
    | some d3 => rw [e] at h; exact ih b d3 d2 h
theorem wfL_C : ∀ (l : List Int32) (f : Nat → Int32) (i d : Nat), (∀ j, j < l.length → f (i + j) = l.getD j 0) → wfC f l.length i d = wfL l d := by
  intro l
  induction l with
  | nil => intro f i d _; rfl
  | cons x l ih =>
    intro f i d h
    have h0 := h 0 (by simp)
    have e : f i = x := by simpa using h0
    rw [List.length_cons, wfC, wfL, e]
    cases wfS d x with
    | none => rfl
    | some d2 =>
      exact ih f (i + 1) d2 (fun j hj => by
        have := h (j + 1) (by simp; omega)
        rw [show i + 1 + j = i + (j + 1) by omega, this]
        simp)
/-- what a place of a code may be -/
def gCd (key : Nat) (v : Int32) : Prop := 0 ≤ v ∧ (1 ≤ key → trS v ≤ 10001)
theorem trS_low {a : Nat} (h : a < 20000) : trS (nI a) = nI a := by
  have ne : ∀ b : Nat, 20000 ≤ b → b < 30000 → ¬ nI a = nI b := fun b h1 h2 u => by
    have := (nI_eq (by omega) (by omega)).mp u
    omega
  unfold trS
  rw [if_neg (show ¬ nI a = 20124 from ne 20124 (by decide) (by decide)), if_neg (show ¬ nI a = 20038 from ne 20038 (by decide) (by decide)), if_neg (show ¬ nI a = 20060 from ne 20060 (by decide) (by decide)), if_neg (show ¬ nI a = 20061 from ne 20061 (by decide) (by decide)), if_neg (show ¬ nI a = 20062 from ne 20062 (by decide) (by decide)), if_neg (show ¬ nI a = 20043 from ne 20043 (by decide) (by decide)), if_neg (show ¬ nI a = 20045 from ne 20045 (by decide) (by decide)), if_neg (show ¬ nI a = 20042 from ne 20042 (by decide) (by decide)), if_neg (show ¬ nI a = 20047 from ne 20047 (by decide) (by decide)), if_neg (show ¬ nI a = 20033 from ne 20033 (by decide) (by decide))]
