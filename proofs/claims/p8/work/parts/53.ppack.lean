/-! shields: what one shows, packed into a long -/
theorem i64_c {c : Nat} (h : c < 128) : (nI c).toInt64.toBitVec.toNat = c := by
  have e : ∀ c : Fin 128, (nI c.val).toInt64.toBitVec.toNat = c.val := by decide +kernel
  exact e ⟨c, h⟩
theorem pk7 {x : Int64} {a c : Nat} (hx : x.toBitVec.toNat = a) (ha : a < 2 ^ 49) (hc : c < 128) : ((x <<< ((7 : Int32).toInt64 &&& 63)) ||| (nI c).toInt64).toBitVec.toNat = a * 128 + c := by
  have e7 : (((7 : Int32).toInt64 &&& 63).toBitVec.smod 64).toNat = 7 := by decide
  rw [Int64.toBitVec_or, BitVec.toNat_or, i64_c hc, Int64.toBitVec_shiftLeft, BitVec.shiftLeft_eq', e7, BitVec.toNat_shiftLeft, hx, Nat.mod_eq_of_lt (by rw [Nat.shiftLeft_eq]; omega), ← Nat.shiftLeft_add_eq_or_of_lt (by omega), Nat.shiftLeft_eq]
def pkN (v : Nat → Nat) : Nat → Nat
  | 0 => 0
  | i + 1 => pkN v i * 128 + v i
theorem pkN_lt {v : Nat → Nat} (hv : ∀ i, v i < 128) : ∀ i, pkN v i < 128 ^ i := by
  intro i
  induction i with
  | zero => simp [pkN]
  | succ i ih =>
    rw [pkN, Nat.pow_succ]
    have := hv i
    omega
theorem pkN_inj {v w : Nat → Nat} (hv : ∀ i, v i < 128) (hw : ∀ i, w i < 128) : ∀ i, pkN v i = pkN w i → ∀ j, j < i → v j = w j := by
  intro i
  induction i with
  | zero => intro _ j hj; exact absurd hj (by omega)
  | succ i ih =>
    intro h j hj
    rw [pkN, pkN] at h
    have h1 := hv i
    have h2 := hw i
    by_cases e : j = i
    · rw [e]; omega
    · exact ih (by omega) j (by omega)
theorem pkN_eq {v w : Nat → Nat} : ∀ i, (∀ j, j < i → v j = w j) → pkN v i = pkN w i := by
  intro i
  induction i with
  | zero => intro _; rfl
  | succ i ih => intro h; rw [pkN, pkN, h i (by omega), ih (fun j hj => h j (by omega))]
