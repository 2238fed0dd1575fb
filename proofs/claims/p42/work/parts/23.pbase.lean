/-! THE PURE LAYER: the heap read and written, the combinators, the shape of the two objects -/
theorem hI_sI (S : HC) (r k : Nat) (v : Int32) (a b : Nat) : hI (sI S r k v) a b = if a = r ∧ b = k then v else hI S a b := rfl
theorem hI_sR (S : HC) (r k : Nat) (v : Option Nat) (a b : Nat) : hI (sR S r k v) a b = hI S a b := rfl
theorem hI_sJ (S : HC) (r k : Nat) (v : Int64) (a b : Nat) : hI (sJ S r k v) a b = hI S a b := rfl
theorem hR_sI (S : HC) (r k : Nat) (v : Int32) (a b : Nat) : hR (sI S r k v) a b = hR S a b := rfl
theorem hR_sR (S : HC) (r k : Nat) (v : Option Nat) (a b : Nat) : hR (sR S r k v) a b = if a = r ∧ b = k then v else hR S a b := rfl
theorem hR_sJ (S : HC) (r k : Nat) (v : Int64) (a b : Nat) : hR (sJ S r k v) a b = hR S a b := rfl
theorem hJ_sI (S : HC) (r k : Nat) (v : Int32) (a b : Nat) : hJ (sI S r k v) a b = hJ S a b := rfl
theorem hJ_sR (S : HC) (r k : Nat) (v : Option Nat) (a b : Nat) : hJ (sR S r k v) a b = hJ S a b := rfl
theorem hJ_sJ (S : HC) (r k : Nat) (v : Int64) (a b : Nat) : hJ (sJ S r k v) a b = if a = r ∧ b = k then v else hJ S a b := rfl
theorem hI_self (S : HC) (r k : Nat) (v : Int32) : hI (sI S r k v) r k = v := by simp [hI_sI]
theorem hI_ne {S : HC} {r k : Nat} {v : Int32} {a b : Nat} (h : ¬ (a = r ∧ b = k)) : hI (sI S r k v) a b = hI S a b := by rw [hI_sI, if_neg h]
theorem hI_row {S : HC} {r k : Nat} {v : Int32} {a b : Nat} (h : a ≠ r) : hI (sI S r k v) a b = hI S a b := hI_ne (fun q => h q.1)
theorem hC_in (S : HC) (r1 sp r2 dp n a b : Nat) : hI (sC S r1 sp r2 dp n) a b = if a = r2 then va_cpy (hI S r1) (hI S r2) sp dp n b else hI S a b := by
  show (if a = r2 then va_cpy (S.1 r1) (S.1 r2) sp dp n else S.1 a) b = _
  by_cases h : a = r2
  · rw [if_pos h, if_pos h]; rfl
  · rw [if_neg h, if_neg h]; rfl
theorem hR_sC (S : HC) (r1 sp r2 dp n a b : Nat) : hR (sC S r1 sp r2 dp n) a b = hR S a b := rfl
theorem lt_e {α : Type} (v : α) (K : α → Prop) : lt_ v K = K v := propext ⟨fun h => h, fun h => h⟩
theorem dn_e (b : Nat) (K : Nat → Prop) : dn_ (some b) K = K b := by simp [dn_]
theorem rb_e0 (K : Prop) : rb_ .boolean 0 K = K := by simp [rb_, narrow]
theorem rb_e1 (K : Prop) : rb_ .boolean 1 K = K := by simp [rb_, narrow]
theorem cO_n (A : Prop) (B : Nat → Prop) : cO_ none A B = A := by simp [cO_]
theorem cO_s (b : Nat) (A : Prop) (B : Nat → Prop) : cO_ (some b) A B = B b := by simp [cO_]
theorem ne_e {y : Int32} {K : Prop} (h : y ≠ 0) : ne_ y K = K := by simp [ne_, h]
theorem al_e {α : Type} {n : Nat} {i : Nat} {f : Nat → α} {K : α → Prop} (hi : i < n) (hn : n < 2 ^ 31) : al_ n (nI i) f K = K (f i) := by
  rw [al_, nI_clamp (by omega)]
  exact propext ⟨fun h => h.2, fun h => ⟨vp_in_nI hi hn, h⟩⟩
theorem as_e {n : Nat} {i : Nat} {f : Nat → HC} {K : HC → Prop} (hi : i < n) (hn : n < 2 ^ 31) : as_ n (nI i) f K = K (f i) := by
  rw [as_, nI_clamp (by omega)]
  exact propext ⟨fun h => h.2, fun h => ⟨vp_in_nI hi hn, h⟩⟩
theorem al_x {α : Type} {n : Nat} {x : Int32} {f : Nat → α} {K : α → Prop} (i : Nat) (hx : x = nI i) (hi : i < n) (hn : n < 2 ^ 31) (h : K (f i)) : al_ n x f K := by subst hx; rw [al_e hi hn]; exact h
theorem as_x {n : Nat} {x : Int32} {f : Nat → HC} {K : HC → Prop} (i : Nat) (hx : x = nI i) (hi : i < n) (hn : n < 2 ^ 31) (h : K (f i)) : as_ n x f K := by subst hx; rw [as_e hi hn]; exact h
theorem dn_x {o : Option Nat} {K : Nat → Prop} (b : Nat) (ho : o = some b) (h : K b) : dn_ o K := ⟨b, ho, h⟩
theorem if_t {c A B : Prop} [Decidable c] (h : c) (a : A) : if c then A else B := by rw [if_pos h]; exact a
theorem if_f {c A B : Prop} [Decidable c] (h : ¬ c) (b : B) : if c then A else B := by rw [if_neg h]; exact b
theorem if_c {c A B : Prop} [Decidable c] (a : c → A) (b : ¬ c → B) : if c then A else B := by
  by_cases h : c
  · rw [if_pos h]; exact a h
  · rw [if_neg h]; exact b h
/-- numbers -/
def bI (p : Prop) [Decidable p] : Int32 := if p then 1 else 0
theorem bI_t {p : Prop} [Decidable p] (h : p) : bI p = 1 := if_pos h
theorem bI_f {p : Prop} [Decidable p] (h : ¬ p) : bI p = 0 := if_neg h
theorem bI_0 {p : Prop} [Decidable p] : bI p = 0 ↔ ¬ p := by
  by_cases h : p
  · simp [bI, h]
  · simp [bI, h]
theorem i_lt {a b : Int32} : a < b ↔ a.toInt < b.toInt := Int32.lt_iff_toInt_lt
theorem i_le {a b : Int32} : a ≤ b ↔ a.toInt ≤ b.toInt := Int32.le_iff_toInt_le
theorem i_eq {a b : Int32} : a = b ↔ a.toInt = b.toInt := ⟨fun h => by rw [h], fun h => Int32.toInt_inj.mp h⟩
theorem i_rng (a : Int32) : -2147483648 ≤ a.toInt ∧ a.toInt ≤ 2147483647 := ⟨by have := Int32.le_toInt a; simpa using this, by have := Int32.toInt_lt a; omega⟩
theorem i_of {x : Int32} {n : Nat} (h : x.toInt = n) : x = nI n := by
  have h2 := (i_rng x).2
  exact i_eq.mpr (by rw [h, nI_toInt (by omega)])
/-- an int that is a place below n, or isn't -/
theorem i_in (x : Int32) (n : Nat) (hn : n < 2 ^ 31) : (∃ j, j < n ∧ x = nI j) ∨ (x < 0 ∨ nI n ≤ x) := by
  rcases pk_ix x hn with h | h | ⟨j, h1, h2⟩
  · exact Or.inr (Or.inl h)
  · exact Or.inr (Or.inr h)
  · exact Or.inl ⟨j, h1, h2⟩
def RT : List (Nat × Nat × Nat) := [(0, 0, 1), (0, 1, 9), (0, 3, 17), (0, 4, 25), (0, 5, 37), (0, 6, 41), (0, 7, 42), (0, 8, 43), (0, 10, 44), (1, 0, 2), (1, 1, 3), (1, 2, 4), (1, 3, 5), (1, 4, 6), (1, 5, 7), (1, 10, 8), (9, 0, 10), (9, 1, 11), (9, 2, 12), (9, 3, 13), (9, 4, 14), (9, 5, 15), (9, 10, 16), (17, 0, 18), (17, 1, 19), (17, 2, 20), (17, 3, 21), (17, 4, 22), (17, 5, 23), (17, 10, 24), (29, 0, 30), (29, 1, 31), (29, 2, 32), (29, 3, 33), (29, 4, 34), (29, 5, 35), (29, 10, 36), (25, 0, 26), (25, 1, 27), (25, 2, 28), (37, 0, 38), (37, 5, 40), (38, 0, 39), (41, 0, 45), (45, 2, 46), (41, 1, 47), (47, 2, 48), (41, 2, 49), (49, 2, 50), (41, 3, 51), (51, 2, 52), (42, 0, 53), (53, 4, 54), (54, 2, 55), (42, 1, 56), (56, 4, 57), (57, 2, 58), (42, 2, 59), (59, 4, 60), (60, 2, 61), (42, 3, 62), (62, 4, 63), (63, 2, 64), (42, 4, 65), (65, 4, 66), (66, 2, 67), (68, 0, 69), (68, 1, 70), (68, 2, 71), (68, 4, 72), (68, 5, 73), (68, 6, 74), (68, 14, 75), (68, 15, 76), (68, 16, 77), (68, 19, 78), (68, 21, 79), (68, 22, 80), (68, 23, 81), (68, 24, 82), (68, 25, 83), (68, 26, 84), (68, 27, 85), (68, 28, 86), (68, 29, 87), (68, 30, 88), (68, 31, 89), (68, 32, 90)]
def LT : List (Nat × Nat) := [(2, 14), (3, 14), (4, 14), (5, 14), (6, 14), (7, 14), (8, 14), (10, 14), (11, 14), (12, 14), (13, 14), (14, 14), (15, 14), (16, 14), (18, 14), (19, 14), (20, 14), (21, 14), (22, 14), (23, 14), (24, 14), (30, 14), (31, 14), (32, 14), (33, 14), (34, 14), (35, 14), (36, 14), (26, 112), (27, 14), (28, 96), (39, 96), (40, 96), (41, 4), (42, 5), (43, 60), (44, 96), (46, 24), (48, 24), (50, 24), (52, 24), (55, 24), (58, 24), (61, 24), (64, 24), (67, 24), (69, 1461), (70, 1461), (71, 1461), (72, 112), (73, 89), (74, 96), (75, 11), (76, 4), (77, 96), (78, 96), (79, 10), (80, 96), (81, 4), (82, 4), (83, 4), (84, 96), (85, 5), (86, 5), (87, 5), (88, 120), (89, 24), (90, 60)]
/-- the references that never change, and the lengths -/
def SH (S : HC) : Prop := ∀ q ∈ RT, hR S q.1 q.2.1 = some q.2.2
def LN (ln : Nat → Nat) : Prop := ∀ q ∈ LT, ln q.1 = q.2
theorem SH.sI {S : HC} (h : SH S) (r k : Nat) (v : Int32) : SH (sI S r k v) := h
theorem SH.sJ {S : HC} (h : SH S) (r k : Nat) (v : Int64) : SH (sJ S r k v) := h
theorem SH.sR {S : HC} (h : SH S) {r k : Nat} (v : Option Nat) (hn : RT.all (fun q => !(q.1 == r && q.2.1 == k)) = true) : SH (sR S r k v) := by
  intro q hq
  rw [hR_sR, if_neg]
  · exact h q hq
  · intro e
    have := List.all_eq_true.mp hn q hq
    simp [e.1, e.2] at this
theorem SH.of {S S' : HC} (h : SH S) (hr : ∀ q ∈ RT, hR S' q.1 q.2.1 = hR S q.1 q.2.1) : SH S' := fun q hq => (hr q hq).trans (h q hq)
theorem sh0_0 {S : HC} (h : SH S) : hR S 0 0 = some 1 := h (0, 0, 1) (by decide)
theorem sh0_1 {S : HC} (h : SH S) : hR S 0 1 = some 9 := h (0, 1, 9) (by decide)
theorem sh0_3 {S : HC} (h : SH S) : hR S 0 3 = some 17 := h (0, 3, 17) (by decide)
theorem sh0_4 {S : HC} (h : SH S) : hR S 0 4 = some 25 := h (0, 4, 25) (by decide)
theorem sh0_5 {S : HC} (h : SH S) : hR S 0 5 = some 37 := h (0, 5, 37) (by decide)
theorem sh0_6 {S : HC} (h : SH S) : hR S 0 6 = some 41 := h (0, 6, 41) (by decide)
theorem sh0_7 {S : HC} (h : SH S) : hR S 0 7 = some 42 := h (0, 7, 42) (by decide)
theorem sh0_8 {S : HC} (h : SH S) : hR S 0 8 = some 43 := h (0, 8, 43) (by decide)
theorem sh0_10 {S : HC} (h : SH S) : hR S 0 10 = some 44 := h (0, 10, 44) (by decide)
theorem sh1_0 {S : HC} (h : SH S) : hR S 1 0 = some 2 := h (1, 0, 2) (by decide)
theorem sh1_1 {S : HC} (h : SH S) : hR S 1 1 = some 3 := h (1, 1, 3) (by decide)
theorem sh1_2 {S : HC} (h : SH S) : hR S 1 2 = some 4 := h (1, 2, 4) (by decide)
theorem sh1_3 {S : HC} (h : SH S) : hR S 1 3 = some 5 := h (1, 3, 5) (by decide)
theorem sh1_4 {S : HC} (h : SH S) : hR S 1 4 = some 6 := h (1, 4, 6) (by decide)
theorem sh1_5 {S : HC} (h : SH S) : hR S 1 5 = some 7 := h (1, 5, 7) (by decide)
theorem sh1_10 {S : HC} (h : SH S) : hR S 1 10 = some 8 := h (1, 10, 8) (by decide)
theorem sh9_0 {S : HC} (h : SH S) : hR S 9 0 = some 10 := h (9, 0, 10) (by decide)
theorem sh9_1 {S : HC} (h : SH S) : hR S 9 1 = some 11 := h (9, 1, 11) (by decide)
theorem sh9_2 {S : HC} (h : SH S) : hR S 9 2 = some 12 := h (9, 2, 12) (by decide)
theorem sh9_3 {S : HC} (h : SH S) : hR S 9 3 = some 13 := h (9, 3, 13) (by decide)
theorem sh9_4 {S : HC} (h : SH S) : hR S 9 4 = some 14 := h (9, 4, 14) (by decide)
theorem sh9_5 {S : HC} (h : SH S) : hR S 9 5 = some 15 := h (9, 5, 15) (by decide)
theorem sh9_10 {S : HC} (h : SH S) : hR S 9 10 = some 16 := h (9, 10, 16) (by decide)
theorem sh17_0 {S : HC} (h : SH S) : hR S 17 0 = some 18 := h (17, 0, 18) (by decide)
theorem sh17_1 {S : HC} (h : SH S) : hR S 17 1 = some 19 := h (17, 1, 19) (by decide)
theorem sh17_2 {S : HC} (h : SH S) : hR S 17 2 = some 20 := h (17, 2, 20) (by decide)
theorem sh17_3 {S : HC} (h : SH S) : hR S 17 3 = some 21 := h (17, 3, 21) (by decide)
theorem sh17_4 {S : HC} (h : SH S) : hR S 17 4 = some 22 := h (17, 4, 22) (by decide)
theorem sh17_5 {S : HC} (h : SH S) : hR S 17 5 = some 23 := h (17, 5, 23) (by decide)
theorem sh17_10 {S : HC} (h : SH S) : hR S 17 10 = some 24 := h (17, 10, 24) (by decide)
theorem sh29_0 {S : HC} (h : SH S) : hR S 29 0 = some 30 := h (29, 0, 30) (by decide)
theorem sh29_1 {S : HC} (h : SH S) : hR S 29 1 = some 31 := h (29, 1, 31) (by decide)
theorem sh29_2 {S : HC} (h : SH S) : hR S 29 2 = some 32 := h (29, 2, 32) (by decide)
theorem sh29_3 {S : HC} (h : SH S) : hR S 29 3 = some 33 := h (29, 3, 33) (by decide)
theorem sh29_4 {S : HC} (h : SH S) : hR S 29 4 = some 34 := h (29, 4, 34) (by decide)
theorem sh29_5 {S : HC} (h : SH S) : hR S 29 5 = some 35 := h (29, 5, 35) (by decide)
theorem sh29_10 {S : HC} (h : SH S) : hR S 29 10 = some 36 := h (29, 10, 36) (by decide)
theorem sh25_0 {S : HC} (h : SH S) : hR S 25 0 = some 26 := h (25, 0, 26) (by decide)
theorem sh25_1 {S : HC} (h : SH S) : hR S 25 1 = some 27 := h (25, 1, 27) (by decide)
theorem sh25_2 {S : HC} (h : SH S) : hR S 25 2 = some 28 := h (25, 2, 28) (by decide)
theorem sh37_0 {S : HC} (h : SH S) : hR S 37 0 = some 38 := h (37, 0, 38) (by decide)
theorem sh37_5 {S : HC} (h : SH S) : hR S 37 5 = some 40 := h (37, 5, 40) (by decide)
theorem sh38_0 {S : HC} (h : SH S) : hR S 38 0 = some 39 := h (38, 0, 39) (by decide)
theorem sh41_0 {S : HC} (h : SH S) : hR S 41 0 = some 45 := h (41, 0, 45) (by decide)
theorem sh45_2 {S : HC} (h : SH S) : hR S 45 2 = some 46 := h (45, 2, 46) (by decide)
theorem sh41_1 {S : HC} (h : SH S) : hR S 41 1 = some 47 := h (41, 1, 47) (by decide)
theorem sh47_2 {S : HC} (h : SH S) : hR S 47 2 = some 48 := h (47, 2, 48) (by decide)
theorem sh41_2 {S : HC} (h : SH S) : hR S 41 2 = some 49 := h (41, 2, 49) (by decide)
theorem sh49_2 {S : HC} (h : SH S) : hR S 49 2 = some 50 := h (49, 2, 50) (by decide)
theorem sh41_3 {S : HC} (h : SH S) : hR S 41 3 = some 51 := h (41, 3, 51) (by decide)
theorem sh51_2 {S : HC} (h : SH S) : hR S 51 2 = some 52 := h (51, 2, 52) (by decide)
theorem sh42_0 {S : HC} (h : SH S) : hR S 42 0 = some 53 := h (42, 0, 53) (by decide)
theorem sh53_4 {S : HC} (h : SH S) : hR S 53 4 = some 54 := h (53, 4, 54) (by decide)
theorem sh54_2 {S : HC} (h : SH S) : hR S 54 2 = some 55 := h (54, 2, 55) (by decide)
theorem sh42_1 {S : HC} (h : SH S) : hR S 42 1 = some 56 := h (42, 1, 56) (by decide)
theorem sh56_4 {S : HC} (h : SH S) : hR S 56 4 = some 57 := h (56, 4, 57) (by decide)
theorem sh57_2 {S : HC} (h : SH S) : hR S 57 2 = some 58 := h (57, 2, 58) (by decide)
theorem sh42_2 {S : HC} (h : SH S) : hR S 42 2 = some 59 := h (42, 2, 59) (by decide)
theorem sh59_4 {S : HC} (h : SH S) : hR S 59 4 = some 60 := h (59, 4, 60) (by decide)
theorem sh60_2 {S : HC} (h : SH S) : hR S 60 2 = some 61 := h (60, 2, 61) (by decide)
theorem sh42_3 {S : HC} (h : SH S) : hR S 42 3 = some 62 := h (42, 3, 62) (by decide)
theorem sh62_4 {S : HC} (h : SH S) : hR S 62 4 = some 63 := h (62, 4, 63) (by decide)
theorem sh63_2 {S : HC} (h : SH S) : hR S 63 2 = some 64 := h (63, 2, 64) (by decide)
theorem sh42_4 {S : HC} (h : SH S) : hR S 42 4 = some 65 := h (42, 4, 65) (by decide)
theorem sh65_4 {S : HC} (h : SH S) : hR S 65 4 = some 66 := h (65, 4, 66) (by decide)
theorem sh66_2 {S : HC} (h : SH S) : hR S 66 2 = some 67 := h (66, 2, 67) (by decide)
theorem sh68_0 {S : HC} (h : SH S) : hR S 68 0 = some 69 := h (68, 0, 69) (by decide)
theorem sh68_1 {S : HC} (h : SH S) : hR S 68 1 = some 70 := h (68, 1, 70) (by decide)
theorem sh68_2 {S : HC} (h : SH S) : hR S 68 2 = some 71 := h (68, 2, 71) (by decide)
theorem sh68_4 {S : HC} (h : SH S) : hR S 68 4 = some 72 := h (68, 4, 72) (by decide)
theorem sh68_5 {S : HC} (h : SH S) : hR S 68 5 = some 73 := h (68, 5, 73) (by decide)
theorem sh68_6 {S : HC} (h : SH S) : hR S 68 6 = some 74 := h (68, 6, 74) (by decide)
theorem sh68_14 {S : HC} (h : SH S) : hR S 68 14 = some 75 := h (68, 14, 75) (by decide)
theorem sh68_15 {S : HC} (h : SH S) : hR S 68 15 = some 76 := h (68, 15, 76) (by decide)
theorem sh68_16 {S : HC} (h : SH S) : hR S 68 16 = some 77 := h (68, 16, 77) (by decide)
theorem sh68_19 {S : HC} (h : SH S) : hR S 68 19 = some 78 := h (68, 19, 78) (by decide)
theorem sh68_21 {S : HC} (h : SH S) : hR S 68 21 = some 79 := h (68, 21, 79) (by decide)
theorem sh68_22 {S : HC} (h : SH S) : hR S 68 22 = some 80 := h (68, 22, 80) (by decide)
theorem sh68_23 {S : HC} (h : SH S) : hR S 68 23 = some 81 := h (68, 23, 81) (by decide)
theorem sh68_24 {S : HC} (h : SH S) : hR S 68 24 = some 82 := h (68, 24, 82) (by decide)
theorem sh68_25 {S : HC} (h : SH S) : hR S 68 25 = some 83 := h (68, 25, 83) (by decide)
theorem sh68_26 {S : HC} (h : SH S) : hR S 68 26 = some 84 := h (68, 26, 84) (by decide)
theorem sh68_27 {S : HC} (h : SH S) : hR S 68 27 = some 85 := h (68, 27, 85) (by decide)
theorem sh68_28 {S : HC} (h : SH S) : hR S 68 28 = some 86 := h (68, 28, 86) (by decide)
theorem sh68_29 {S : HC} (h : SH S) : hR S 68 29 = some 87 := h (68, 29, 87) (by decide)
theorem sh68_30 {S : HC} (h : SH S) : hR S 68 30 = some 88 := h (68, 30, 88) (by decide)
theorem sh68_31 {S : HC} (h : SH S) : hR S 68 31 = some 89 := h (68, 31, 89) (by decide)
theorem sh68_32 {S : HC} (h : SH S) : hR S 68 32 = some 90 := h (68, 32, 90) (by decide)
theorem ln2 {ln : Nat → Nat} (h : LN ln) : ln 2 = 14 := h (2, 14) (by decide)
theorem ln3 {ln : Nat → Nat} (h : LN ln) : ln 3 = 14 := h (3, 14) (by decide)
theorem ln4 {ln : Nat → Nat} (h : LN ln) : ln 4 = 14 := h (4, 14) (by decide)
theorem ln5 {ln : Nat → Nat} (h : LN ln) : ln 5 = 14 := h (5, 14) (by decide)
theorem ln6 {ln : Nat → Nat} (h : LN ln) : ln 6 = 14 := h (6, 14) (by decide)
theorem ln7 {ln : Nat → Nat} (h : LN ln) : ln 7 = 14 := h (7, 14) (by decide)
theorem ln8 {ln : Nat → Nat} (h : LN ln) : ln 8 = 14 := h (8, 14) (by decide)
theorem ln10 {ln : Nat → Nat} (h : LN ln) : ln 10 = 14 := h (10, 14) (by decide)
theorem ln11 {ln : Nat → Nat} (h : LN ln) : ln 11 = 14 := h (11, 14) (by decide)
theorem ln12 {ln : Nat → Nat} (h : LN ln) : ln 12 = 14 := h (12, 14) (by decide)
theorem ln13 {ln : Nat → Nat} (h : LN ln) : ln 13 = 14 := h (13, 14) (by decide)
theorem ln14 {ln : Nat → Nat} (h : LN ln) : ln 14 = 14 := h (14, 14) (by decide)
theorem ln15 {ln : Nat → Nat} (h : LN ln) : ln 15 = 14 := h (15, 14) (by decide)
theorem ln16 {ln : Nat → Nat} (h : LN ln) : ln 16 = 14 := h (16, 14) (by decide)
theorem ln18 {ln : Nat → Nat} (h : LN ln) : ln 18 = 14 := h (18, 14) (by decide)
theorem ln19 {ln : Nat → Nat} (h : LN ln) : ln 19 = 14 := h (19, 14) (by decide)
theorem ln20 {ln : Nat → Nat} (h : LN ln) : ln 20 = 14 := h (20, 14) (by decide)
theorem ln21 {ln : Nat → Nat} (h : LN ln) : ln 21 = 14 := h (21, 14) (by decide)
theorem ln22 {ln : Nat → Nat} (h : LN ln) : ln 22 = 14 := h (22, 14) (by decide)
theorem ln23 {ln : Nat → Nat} (h : LN ln) : ln 23 = 14 := h (23, 14) (by decide)
theorem ln24 {ln : Nat → Nat} (h : LN ln) : ln 24 = 14 := h (24, 14) (by decide)
theorem ln30 {ln : Nat → Nat} (h : LN ln) : ln 30 = 14 := h (30, 14) (by decide)
theorem ln31 {ln : Nat → Nat} (h : LN ln) : ln 31 = 14 := h (31, 14) (by decide)
theorem ln32 {ln : Nat → Nat} (h : LN ln) : ln 32 = 14 := h (32, 14) (by decide)
theorem ln33 {ln : Nat → Nat} (h : LN ln) : ln 33 = 14 := h (33, 14) (by decide)
theorem ln34 {ln : Nat → Nat} (h : LN ln) : ln 34 = 14 := h (34, 14) (by decide)
theorem ln35 {ln : Nat → Nat} (h : LN ln) : ln 35 = 14 := h (35, 14) (by decide)
theorem ln36 {ln : Nat → Nat} (h : LN ln) : ln 36 = 14 := h (36, 14) (by decide)
theorem ln26 {ln : Nat → Nat} (h : LN ln) : ln 26 = 112 := h (26, 112) (by decide)
theorem ln27 {ln : Nat → Nat} (h : LN ln) : ln 27 = 14 := h (27, 14) (by decide)
theorem ln28 {ln : Nat → Nat} (h : LN ln) : ln 28 = 96 := h (28, 96) (by decide)
theorem ln39 {ln : Nat → Nat} (h : LN ln) : ln 39 = 96 := h (39, 96) (by decide)
theorem ln40 {ln : Nat → Nat} (h : LN ln) : ln 40 = 96 := h (40, 96) (by decide)
theorem ln41 {ln : Nat → Nat} (h : LN ln) : ln 41 = 4 := h (41, 4) (by decide)
theorem ln42 {ln : Nat → Nat} (h : LN ln) : ln 42 = 5 := h (42, 5) (by decide)
theorem ln43 {ln : Nat → Nat} (h : LN ln) : ln 43 = 60 := h (43, 60) (by decide)
theorem ln44 {ln : Nat → Nat} (h : LN ln) : ln 44 = 96 := h (44, 96) (by decide)
theorem ln46 {ln : Nat → Nat} (h : LN ln) : ln 46 = 24 := h (46, 24) (by decide)
theorem ln48 {ln : Nat → Nat} (h : LN ln) : ln 48 = 24 := h (48, 24) (by decide)
theorem ln50 {ln : Nat → Nat} (h : LN ln) : ln 50 = 24 := h (50, 24) (by decide)
theorem ln52 {ln : Nat → Nat} (h : LN ln) : ln 52 = 24 := h (52, 24) (by decide)
theorem ln55 {ln : Nat → Nat} (h : LN ln) : ln 55 = 24 := h (55, 24) (by decide)
theorem ln58 {ln : Nat → Nat} (h : LN ln) : ln 58 = 24 := h (58, 24) (by decide)
theorem ln61 {ln : Nat → Nat} (h : LN ln) : ln 61 = 24 := h (61, 24) (by decide)
theorem ln64 {ln : Nat → Nat} (h : LN ln) : ln 64 = 24 := h (64, 24) (by decide)
theorem ln67 {ln : Nat → Nat} (h : LN ln) : ln 67 = 24 := h (67, 24) (by decide)
theorem ln69 {ln : Nat → Nat} (h : LN ln) : ln 69 = 1461 := h (69, 1461) (by decide)
theorem ln70 {ln : Nat → Nat} (h : LN ln) : ln 70 = 1461 := h (70, 1461) (by decide)
theorem ln71 {ln : Nat → Nat} (h : LN ln) : ln 71 = 1461 := h (71, 1461) (by decide)
theorem ln72 {ln : Nat → Nat} (h : LN ln) : ln 72 = 112 := h (72, 112) (by decide)
theorem ln73 {ln : Nat → Nat} (h : LN ln) : ln 73 = 89 := h (73, 89) (by decide)
theorem ln74 {ln : Nat → Nat} (h : LN ln) : ln 74 = 96 := h (74, 96) (by decide)
theorem ln75 {ln : Nat → Nat} (h : LN ln) : ln 75 = 11 := h (75, 11) (by decide)
theorem ln76 {ln : Nat → Nat} (h : LN ln) : ln 76 = 4 := h (76, 4) (by decide)
theorem ln77 {ln : Nat → Nat} (h : LN ln) : ln 77 = 96 := h (77, 96) (by decide)
theorem ln78 {ln : Nat → Nat} (h : LN ln) : ln 78 = 96 := h (78, 96) (by decide)
theorem ln79 {ln : Nat → Nat} (h : LN ln) : ln 79 = 10 := h (79, 10) (by decide)
theorem ln80 {ln : Nat → Nat} (h : LN ln) : ln 80 = 96 := h (80, 96) (by decide)
theorem ln81 {ln : Nat → Nat} (h : LN ln) : ln 81 = 4 := h (81, 4) (by decide)
theorem ln82 {ln : Nat → Nat} (h : LN ln) : ln 82 = 4 := h (82, 4) (by decide)
theorem ln83 {ln : Nat → Nat} (h : LN ln) : ln 83 = 4 := h (83, 4) (by decide)
theorem ln84 {ln : Nat → Nat} (h : LN ln) : ln 84 = 96 := h (84, 96) (by decide)
theorem ln85 {ln : Nat → Nat} (h : LN ln) : ln 85 = 5 := h (85, 5) (by decide)
theorem ln86 {ln : Nat → Nat} (h : LN ln) : ln 86 = 5 := h (86, 5) (by decide)
theorem ln87 {ln : Nat → Nat} (h : LN ln) : ln 87 = 5 := h (87, 5) (by decide)
theorem ln88 {ln : Nat → Nat} (h : LN ln) : ln 88 = 120 := h (88, 120) (by decide)
theorem ln89 {ln : Nat → Nat} (h : LN ln) : ln 89 = 24 := h (89, 24) (by decide)
theorem ln90 {ln : Nat → Nat} (h : LN ln) : ln 90 = 60 := h (90, 60) (by decide)
/-- a Land at base b -/
def LB (b : Nat) : Prop := b = 1 ∨ b = 9 ∨ b = 17 ∨ b = 29
theorem lb_r {S : HC} (h : SH S) {b : Nat} (hb : LB b) {i : Nat} (hi : i < 6) : hR S b i = some (b + 1 + i) := by
  rcases hb with rfl | rfl | rfl | rfl <;> rcases (show i = 0 ∨ i = 1 ∨ i = 2 ∨ i = 3 ∨ i = 4 ∨ i = 5 by omega) with rfl | rfl | rfl | rfl | rfl | rfl <;> exact h (_, _, _) (by decide)
theorem lb_l {S : HC} (h : SH S) {b : Nat} (hb : LB b) : hR S b 10 = some (b + 7) := by
  rcases hb with rfl | rfl | rfl | rfl <;> exact h (_, _, _) (by decide)
theorem lb_n {ln : Nat → Nat} (h : LN ln) {b : Nat} (hb : LB b) {i : Nat} (hi : i < 7) : ln (b + 1 + i) = 14 := by
  rcases hb with rfl | rfl | rfl | rfl <;> rcases (show i = 0 ∨ i = 1 ∨ i = 2 ∨ i = 3 ∨ i = 4 ∨ i = 5 ∨ i = 6 by omega) with rfl | rfl | rfl | rfl | rfl | rfl | rfl <;> exact h (_, _) (by decide)
theorem lb_n7 {ln : Nat → Nat} (h : LN ln) {b : Nat} (hb : LB b) : ln (b + 7) = 14 := lb_n (i := 6) h hb (by decide)
