/-! bits; the heiresses as bits -/
theorem sh31 : ∀ i : Fin 31, ((nI i.val &&& 31).toBitVec.smod 32).toNat = i.val := by decide
theorem and1 (x : Int32) : x &&& 1 = if x.toBitVec.getLsbD 0 then 1 else 0 := by
  have h := pk_and x (m := 1) 1 (by decide)
  rw [h, BitVec.getLsbD, Nat.testBit_zero]
  rcases (show x.toBitVec.toNat % 2 ^ 1 = 0 ∨ x.toBitVec.toNat % 2 ^ 1 = 1 by omega) with e | e
  · rw [e]
    have : x.toBitVec.toNat % 2 = 0 := by omega
    simp [this]
    rfl
  · rw [e]
    have : x.toBitVec.toNat % 2 = 1 := by omega
    simp [this]
    rfl
theorem bit_e (z : Int32) {j : Nat} (hj : j < 31) : (z >>> (nI j &&& 31)) &&& 1 = if z.toBitVec.getLsbD j then 1 else 0 := by
  have hb : (z >>> (nI j &&& 31)).toBitVec.getLsbD 0 = z.toBitVec.getLsbD j := by
    rw [Int32.toBitVec_shiftRight, BitVec.sshiftRight_eq', sh31 ⟨j, hj⟩, BitVec.getLsbD_sshiftRight]
    simp
    intro h
    omega
  rw [and1, hb]
theorem bit_or (z : Int32) {i j : Nat} (hi : i < 31) (hj : j < 31) : (z ||| ((1 : Int32) <<< (nI i &&& 31))).toBitVec.getLsbD j = (z.toBitVec.getLsbD j || decide (i = j)) := by
  rw [Int32.toBitVec_or, BitVec.getLsbD_or, Int32.toBitVec_shiftLeft, BitVec.shiftLeft_eq', sh31 ⟨i, hi⟩, BitVec.getLsbD_shiftLeft]
  congr 1
  simp
  rw [Bool.eq_iff_iff]
  simp
  omega
def herB (n : Nat) (f : Nat → Nat → Int32) : Nat → Int32
  | 0 => 0
  | i + 1 => if herP n f i then herB n f i ||| ((1 : Int32) <<< (nI i &&& 31)) else herB n f i
theorem herB_bit {n : Nat} {f : Nat → Nat → Int32} {j : Nat} (hj : j < 31) : ∀ i, i ≤ 31 → (herB n f i).toBitVec.getLsbD j = decide (j < i ∧ herP n f j) := by
  intro i
  induction i with
  | zero =>
    intro _
    rw [herB]
    simp
  | succ i ih =>
    intro hi
    rw [herB]
    by_cases e : herP n f i
    · rw [if_pos e, bit_or _ (by omega) hj, ih (by omega), Bool.eq_iff_iff]
      simp only [Bool.or_eq_true, decide_eq_true_eq]
      constructor
      · rintro (q | q)
        · exact ⟨by omega, q.2⟩
        · subst q; exact ⟨by omega, e⟩
      · intro q
        by_cases u : i = j
        · exact Or.inr u
        · exact Or.inl ⟨by omega, q.2⟩
    · rw [if_neg e, ih (by omega), Bool.eq_iff_iff]
      simp only [decide_eq_true_eq]
      constructor
      · intro q; exact ⟨by omega, q.2⟩
      · intro q
        by_cases u : i = j
        · subst u; exact absurd q.2 e
        · exact ⟨by omega, q.2⟩
theorem p_heiresses {ln : Nat → Nat} {S : HC} {b n : Nat} {f : Nat → Nat → Int32} {post : Int32 → HC → Prop} (hs : SH S) (hl : LN ln) (hb : LB b) (hn : hI S b 6 = nI n) (hf : AG n (xf S b) f) (h14 : n ≤ 14) (h : post (herB n f n) S) : wpX0_heiresses ln S b post := by
  have key : ∀ m i, i + m = n → LX0_heiresses_4 ln post (m + 1) S b (herB n f i) (nI i) := by
    intro m
    induction m with
    | zero =>
      intro i hi
      rw [LX0_heiresses_4]
      dsimp only
      rw [lt_e, hn, if_pos (nI_le (by omega) (by omega)), show i = n by omega]
      exact h
    | succ m ih =>
      intro i hi
      rw [LX0_heiresses_4]
      dsimp only
      unfold BX0_heiresses_26
      rw [lt_e, hn, if_neg (nI_ge (by omega) (by omega))]
      have k := ih (i + 1) (by omega)
      rw [herB] at k
      refine p_isHeir hs hl hb hn hf h14 (by omega) (fun u => ?_) (fun u => ?_)
      · rw [if_neg (by decide), lt_e, lt_e, lt_e, nI_1]
        rw [if_pos u] at k
        exact k
      · rw [if_pos rfl, lt_e, nI_1]
        rw [if_neg u] at k
        exact k
  exact ⟨n + 1, key n 0 (by omega)⟩
theorem p_mher {ln : Nat → Nat} {S : HC} {n : Nat} {f : Nat → Nat → Int32} {post : Int32 → HC → Prop} (hs : SH S) (hl : LN ln) (hn : hI S 69 1 = nI n) (hf : AG n (mf S 69) f) (hv : VP n f) (h14 : n ≤ 14) (h : post (herB n f n) S) : ∃ k, LX8_land_40 ln post k S 68 0 0 := by
  have key : ∀ m i, i + m = n → LX8_land_40 ln post (m + 1) S 68 (herB n f i) (nI i) := by
    intro m
    induction m with
    | zero =>
      intro i hi
      rw [LX8_land_40]
      dsimp only
      rw [sh68_0 hs, dn_e, ln69 hl, al_l1 (by decide) (by decide), hn, if_pos (nI_le (by omega) (by omega)), show i = n by omega]
      exact h
    | succ m ih =>
      intro i hi
      rw [LX8_land_40]
      dsimp only
      unfold BX8_land_66
      rw [sh68_0 hs, dn_e, ln69 hl, al_l1 (by decide) (by decide), hn, if_neg (nI_ge (by omega) (by omega))]
      have k := ih (i + 1) (by omega)
      rw [herB] at k
      refine p_mHeir hs hl hn hf hv h14 (by omega) (fun u => ?_) (fun u => ?_)
      · rw [if_neg (by decide), lt_e, lt_e, lt_e, nI_1]
        rw [if_pos u] at k
        exact k
      · rw [if_pos rfl, lt_e, lt_e, Int32.or_zero, nI_1]
        rw [if_neg u] at k
        exact k
  exact ⟨n + 1, key n 0 (by omega)⟩
/-- which law there is for a key -/
theorem p_lawFor {ln : Nat → Nat} {N : Nat} {S : HC} {b a m key : Nat} {post : Option Nat → HC → Prop} (hs : SH S) (hl : LN ln) (hb : LB b) (hk : key < 3) (hm : m ≤ 14) (h11 : hI S b 11 = nI m) (hw : ∀ t, t < m → ∃ q key c, hR S (b + 7) t = some q ∧ LAW ln N S q a t key c) (h0 : lastL (ksM S a) key m = -1 → post none S) (h1 : ∀ t q c, t < m → lastL (ksM S a) key m = nI t → hR S (b + 7) t = some q → LAW ln N S q a t key c → post (some q) S) : wpX0_lawFor ln S b (nI key) post := by
  unfold wpX0_lawFor
  refine p_lastLaw hs hl hb hk hm h11 hw ?_
  rcases lastL_ok (ksM S a) key m with e | ⟨t, t1, t2, t3⟩
  · rw [e, if_neg (by decide)]; exact h0 e
  · obtain ⟨q, key2, c, q1, q2⟩ := hw t t1
    have ek : key2 = key := by rw [← q2.ks, t2]
    subst ek
    rw [t3, if_pos (nI_pos' (by omega)), lb_l hs hb, dn_e, lb_n7 hl hb, al_e (by omega) (by decide), q1]
    exact h1 t q c t1 t3 q1 q2
