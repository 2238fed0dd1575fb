-- 44.pher.lean.txt
/-! bits; the heiresses as bits -/
theorem sh31 : ∀ i : Fin 31, ((nI i.val &&& 31).toBitVec.smod 32).toNat = i.val := by decide
theorem and1 (x : Int32) : x &&& 1 = if x.toBitVec.getLsbD 0 then 1 else 0 := by
  have h := pk_and x (m := 1) 1 (by decide)
  rw [h, BitVec.getLsbD, Nat.testBit_zero]
  rcases (show x.toBitVec.toNat % 2 ^ 1 = 0 ∨ x.toBitVec.toNat % 2 ^ 1 = 1 by omega) with e | e
  · rw [e]
    have : x.toBitVec.toNat % 2 = 0 := by omega
    simp [this]
    rfl
  · rw [e]
    have : x.toBitVec.toNat % 2 = 1 := by omega
    simp [this]
    rfl
theorem bit_e (z : Int32) {j : Nat} (hj : j < 31) : (z >>> (nI j &&& 31)) &&& 1 = if z.toBitVec.getLsbD j then 1 else 0 := by
  have hb : (z >>> (nI j &&& 31)).toBitVec.getLsbD 0 = z.toBitVec.getLsbD j := by
    rw [Int32.toBitVec_shiftRight, BitVec.sshiftRight_eq', sh31 ⟨j, hj⟩, BitVec.getLsbD_sshiftRight]
    simp
    intro h
    omega
  rw [and1, hb]
theorem bit_or (z : Int32) {i j : Nat} (hi : i < 31) (hj : j < 31) : (z ||| ((1 : Int32) <<< (nI i &&& 31))).toBitVec.getLsbD j = (z.toBitVec.getLsbD j || decide (i = j)) := by
  rw [Int32.toBitVec_or, BitVec.getLsbD_or, Int32.toBitVec_shiftLeft, BitVec.shiftLeft_eq', sh31 ⟨i, hi⟩, BitVec.getLsbD_shiftLeft]
  congr 1
  simp
  rw [Bool.eq_iff_iff]
  simp
  omega
def herB (n : Nat) (f : Nat → Nat → Int32) : Nat → Int32
  | 0 => 0
  | i + 1 => if herP n f i then herB n f i ||| ((1 : Int32) <<< (nI i &&& 31)) else herB n f i
theorem herB_bit {n : Nat} {f : Nat → Nat → Int32} {j : Nat} (hj : j < 31) : ∀ i, i ≤ 31 → (herB n f i).toBitVec.getLsbD j = decide (j < i ∧ herP n f j) := by
  intro i
  induction i with
  | zero =>
    intro _
    rw [herB]
    simp
  | succ i ih =>
    intro hi
    rw [herB]
    by_cases e : herP n f i
    · rw [if_pos e, bit_or _ (by omega) hj, ih (by omega), Bool.eq_iff_iff]
      simp only [Bool.or_eq_true, decide_eq_true_eq]
      constructor
      · rintro (q | q)
        · exact ⟨by omega, q.2⟩
        · subst q; exact ⟨by omega, e⟩
      · intro q
        by_cases u : i = j
        · exact Or.inr u
        · exact Or.inl ⟨by omega, q.2⟩
    · rw [if_neg e, ih (by omega), Bool.eq_iff_iff]
      simp only [decide_eq_true_eq]
      constructor
      · intro q; exact ⟨by omega, q.2⟩
      · intro q
        by_cases u : i = j
        · subst u; exact absurd q.2 e
        · exact ⟨by omega, q.2⟩
theorem p_heiresses {ln : Nat → Nat} {S : HC} {b n : Nat} {f : Nat → Nat → Int32} {post : Int32 → HC → Prop} (hs : SH S) (hl : LN ln) (hb : LB b) (hn : hI S b 6 = nI n) (hf : AG n (xf S b) f) (h14 : n ≤ 14) (h : post (herB n f n) S) : wpX0_heiresses ln S b post := by
  have key : ∀ m i, i + m = n → LX0_heiresses_4 ln post (m + 1) S b (herB n f i) (nI i) := by
    intro m
    induction m with
    | zero =>
      intro i hi
      rw [LX0_heiresses_4]
      dsimp only
      rw [lt_e, hn, if_pos (nI_le (by omega) (by omega)), show i = n by omega]
      exact h
    | succ m ih =>
      intro i hi
      rw [LX0_heiresses_4]
      dsimp only
      unfold BX0_heiresses_26
      rw [lt_e, hn, if_neg (nI_ge (by omega) (by omega))]
      have k := ih (i + 1) (by omega)
      rw [herB] at k
      refine p_isHeir hs hl hb hn hf h14 (by omega) (fun u => ?_) (fun u => ?_)
      · rw [if_neg (by decide), lt_e, lt_e, lt_e, nI_1]
        rw [if_pos u] at k
        exact k
      · rw [if_pos rfl, lt_e, nI_1]
        rw [if_neg u] at k
        exact k
  exact ⟨n + 1, key n 0 (by omega)⟩
theorem p_mher {ln : Nat → Nat} {S : HC} {n : Nat} {f : Nat → Nat → Int32} {post : Int32 → HC → Prop} (hs : SH S) (hl : LN ln) (hn : hI S 69 1 = nI n) (hf : AG n (mf S 69) f) (hv : VP n f) (h14 : n ≤ 14) (h : post (herB n f n) S) : ∃ k, LX8_land_40 ln post k S 68 0 0 := by
  have key : ∀ m i, i + m = n → LX8_land_40 ln post (m + 1) S 68 (herB n f i) (nI i) := by
    intro m
    induction m with
    | zero =>
      intro i hi
      rw [LX8_land_40]
      dsimp only
      rw [sh68_0 hs, dn_e, ln69 hl, al_l1 (by decide) (by decide), hn, if_pos (nI_le (by omega) (by omega)), show i = n by omega]
      exact h
    | succ m ih =>
      intro i hi
      rw [LX8_land_40]
      dsimp only
      unfold BX8_land_66
      rw [sh68_0 hs, dn_e, ln69 hl, al_l1 (by decide) (by decide), hn, if_neg (nI_ge (by omega) (by omega))]
      have k := ih (i + 1) (by omega)
      rw [herB] at k
      refine p_mHeir hs hl hn hf hv h14 (by omega) (fun u => ?_) (fun u => ?_)
      · rw [if_neg (by decide), lt_e, lt_e, lt_e, nI_1]
        rw [if_pos u] at k
        exact k
      · rw [if_pos rfl, lt_e, lt_e, Int32.or_zero, nI_1]
        rw [if_neg u] at k
        exact k
  exact ⟨n + 1, key n 0 (by omega)⟩
/-- which law there is for a key -/
theorem p_lawFor {ln : Nat → Nat} {N : Nat} {S : HC} {b a m key : Nat} {post : Option Nat → HC → Prop} (hs : SH S) (hl : LN ln) (hb : LB b) (hk : key < 3) (hm : m ≤ 14) (h11 : hI S b 11 = nI m) (hw : ∀ t, t < m → ∃ q key c, hR S (b + 7) t = some q ∧ LAW ln N S q a t key c) (h0 : lastL (ksM S a) key m = -1 → post none S) (h1 : ∀ t q c, t < m → lastL (ksM S a) key m = nI t → hR S (b + 7) t = some q → LAW ln N S q a t key c → post (some q) S) : wpX0_lawFor ln S b (nI key) post := by
  unfold wpX0_lawFor
  refine p_lastLaw hs hl hb hk hm h11 hw ?_
  rcases lastL_ok (ksM S a) key m with e | ⟨t, t1, t2, t3⟩
  · rw [e, if_neg (by decide)]; exact h0 e
  · obtain ⟨q, key2, c, q1, q2⟩ := hw t t1
    have ek : key2 = key := by rw [← q2.ks, t2]
    subst ek
    rw [t3, if_pos (nI_pos' (by omega)), lb_l hs hb, dn_e, lb_n7 hl hb, al_e (by omega) (by decide), q1]
    exact h1 t q c t1 t3 q1 q2
-- 45.pshields.lean.txt
/-! shields: what a part is, as numbers; the class's side -/
def cl64 (x : Int32) : Int32 := if x < 0 then 0 else if 64 < x then 64 else x
def V64 (v : Int32) : Prop := ∃ c, c ≤ 64 ∧ v = nI c
theorem cl64_ok (x : Int32) : V64 (cl64 x) := by
  unfold cl64
  by_cases h1 : x < 0
  · rw [if_pos h1]; exact ⟨0, by decide, rfl⟩
  rw [if_neg h1]
  by_cases h2 : 64 < x
  · rw [if_pos h2]; exact ⟨64, by decide, rfl⟩
  · rw [if_neg h2]
    obtain ⟨c, hc, e⟩ := nI_of2 (n := 64) (M := 64) (x := x) rfl h1 (Int32.not_lt.mp h2)
    exact ⟨c, hc, e⟩
theorem cl64_id {x : Int32} (h : V64 x) : cl64 x = x := by
  obtain ⟨c, hc, rfl⟩ := h
  unfold cl64
  rw [if_neg (nI_pos (by omega)), if_neg (show ¬ (64 : Int32) < nI c from nI_nlt (a := 64) hc (by decide))]
theorem half_ok {l r : Int32} (h1 : V64 l) (h2 : V64 r) : V64 ((l + r) / 2) := by
  obtain ⟨a, ha, rfl⟩ := h1
  obtain ⟨b, hb, rfl⟩ := h2
  rw [nI_add, show (2 : Int32) = nI 2 from rfl, pk_div (by omega) (by decide) (by decide)]
  exact ⟨_, by omega, rfl⟩
/-- two parts joined: with no law, or by the code cd of length c -/
def JF (o : Option ((Nat → Int32) × Nat)) (l r ch : Int32) : Int32 := match o with
  | none => cl64 ((l + r) / 2)
  | some p => cl64 (evF l r ch p.1 p.2 0 (fun _ => 0) 0 0)
theorem JF_ok (o : Option ((Nat → Int32) × Nat)) (l r ch : Int32) : V64 (JF o l r ch) := by
  cases o with
  | none => exact cl64_ok _
  | some p => exact cl64_ok _
def ixN (x : Int32) : Nat := x.toInt.toNat
theorem ixN_e {p : Nat} (h : p < 2 ^ 31) : ixN (nI p) = p := by unfold ixN; rw [nI_toInt h]; rfl
def byK (k : Int32) (own : Prop) [Decidable own] (h mo : Int32) : Int32 := if k = 1 then (if 2 ≤ h then h - 2 else 0) else if k = 2 then (if own then 64 else h) else if k = 3 then (if 2 ≤ h then h - 2 else 0) / 2 else if k = 4 then (if own then 8 else 0) else if k = 5 then mo else h
/-- what one has of a charge as heir -/
def ptH (n : Nat) (f : Nat → Nat → Int32) (o : Option ((Nat → Int32) × Nat)) (ch : Int32) (T : Nat → Int32) (i : Nat) : Int32 := if f 1 i = -1 then (if f 4 i = ch then 64 else 0) else JF o (T (ixN (f 1 i))) (if ¬ f 2 i = -1 ∧ herP n f (ixN (f 2 i)) then T (ixN (f 2 i)) else T (ixN (f 1 i))) ch
def pt1 (n : Nat) (f : Nat → Nat → Int32) (o : Option ((Nat → Int32) × Nat)) (ch : Int32) (T : Nat → Int32) (i : Nat) : Int32 := byK (f 0 i) (f 4 i = ch) (ptH n f o ch T i) (if f 2 i = -1 then 0 else T (ixN (f 2 i)))
def ptT (n : Nat) (f : Nat → Nat → Int32) (o : Option ((Nat → Int32) × Nat)) (ch : Int32) : Nat → Nat → Int32
  | 0 => fun _ => 0
  | i + 1 => upS (ptT n f o ch i) i (pt1 n f o ch (ptT n f o ch i) i)
theorem dec2_ok {h : Int32} (hh : V64 h) : V64 (if 2 ≤ h then h - 2 else 0) := by
  obtain ⟨c, hc, rfl⟩ := hh
  by_cases e : 2 ≤ c
  · rw [if_pos (show (2 : Int32) ≤ nI c from nI_le (a := 2) e (by omega)), show nI c - 2 = nI (c - 2) from pk_sub (b := 2) e]
    exact ⟨_, by omega, rfl⟩
  · rw [if_neg (show ¬ (2 : Int32) ≤ nI c from nI_ge (b := 2) (by omega) (by decide))]
    exact ⟨0, by decide, rfl⟩
theorem byK_ok {k : Int32} {own : Prop} [Decidable own] {h mo : Int32} (hh : V64 h) (hm : V64 mo) : V64 (byK k own h mo) := by
  obtain ⟨c, hc, e⟩ := dec2_ok hh
  unfold byK
  rw [e]
  repeat' split
  · exact ⟨c, hc, rfl⟩
  · exact ⟨64, by decide, rfl⟩
  · exact hh
  · rw [show (2 : Int32) = nI 2 from rfl, pk_div (by omega) (by decide) (by decide)]
    exact ⟨_, by omega, rfl⟩
  · exact ⟨8, by decide, rfl⟩
  · exact ⟨0, by decide, rfl⟩
  · exact hm
  · exact hh
theorem ptH_ok {n : Nat} {f : Nat → Nat → Int32} {o : Option ((Nat → Int32) × Nat)} {ch : Int32} {T : Nat → Int32} {i : Nat} : V64 (ptH n f o ch T i) := by
  unfold ptH
  repeat' split
  · exact ⟨64, by decide, rfl⟩
  · exact ⟨0, by decide, rfl⟩
  · exact JF_ok _ _ _ _
  · exact JF_ok _ _ _ _
theorem pt1_ok {n : Nat} {f : Nat → Nat → Int32} {o : Option ((Nat → Int32) × Nat)} {ch : Int32} {T : Nat → Int32} {i : Nat} (hT : ∀ j, V64 (T j)) : V64 (pt1 n f o ch T i) := by
  unfold pt1
  refine byK_ok ptH_ok ?_
  split
  · exact ⟨0, by decide, rfl⟩
  · exact hT _
theorem ptT_ok {n : Nat} {f : Nat → Nat → Int32} {o : Option ((Nat → Int32) × Nat)} {ch : Int32} : ∀ i j, V64 (ptT n f o ch i j) := by
  intro i
  induction i with
  | zero => intro j; exact ⟨0, by decide, rfl⟩
  | succ i ih =>
    intro j
    rw [ptT]
    unfold upS
    by_cases e : j = i
    · rw [if_pos e]; exact pt1_ok ih
    · rw [if_neg e]; exact ih j
theorem ptT_st {n : Nat} {f : Nat → Nat → Int32} {o : Option ((Nat → Int32) × Nat)} {ch : Int32} {i j : Nat} (h : j < i) : ∀ m, ptT n f o ch (i + m) j = ptT n f o ch i j := by
  intro m
  induction m with
  | zero => rfl
  | succ m ih =>
    rw [show i + (m + 1) = i + m + 1 by omega, ptT]
    unfold upS
    rw [if_neg (by omega), ih]
/-- the class's Shields look at the land b -/
def LK (ln : Nat → Nat) (N : Nat) (S : HC) (b n : Nat) (f : Nat → Nat → Int32) (o : Option ((Nat → Int32) × Nat)) : Prop := hR S 25 3 = some b ∧ hI S 25 5 = herB n f n ∧ hI S b 6 = nI n ∧ AG n (xf S b) f ∧ ((hR S 25 4 = none ∧ o = none) ∨ ∃ q t c am, (am = 69 ∨ am = 70) ∧ hR S 25 4 = some q ∧ LAW ln N S q am t 0 c ∧ o = some (fun i => hI S am (117 + 96 * t + i), c))
theorem p_hidden {ln : Nat → Nat} {S : HC} {b n p ch : Nat} {post : Int32 → HC → Prop} (hs : SH S) (hl : LN ln) (h3 : hR S 25 3 = some b) (hn : hI S b 6 = nI n) (h14 : n ≤ 14) (hp : p < n) (hc : ch < 8) : wpX4_hidden ln S 25 (nI p) (nI ch) post = post (hI S 26 (14 * ch + p)) S := by
  unfold wpX4_hidden
  rw [h3, dn_e, p_has, hasT hn h14 hp, if_neg (by decide), p_isCharge, bI_t ⟨nI_pos' (by omega), show nI ch < 8 from nI_lt (b := 8) hc (by decide)⟩, if_neg (by decide), sh25_0 hs, dn_e]
  simp only [lt_e]
  rw [show nI ch * 14 = nI (ch * 14) from pk_mul ch 14, nI_add, ln26 hl, al_e (by omega) (by decide), Nat.mul_comm ch 14]
theorem p_hidden0 {ln : Nat → Nat} {S : HC} {b n : Nat} {x : Int32} {post : Int32 → HC → Prop} (h3 : hR S 25 3 = some b) (hn : hI S b 6 = nI n) : wpX4_hidden ln S 25 (-1) x post = post 0 S := by
  unfold wpX4_hidden BX4_hidden_18
  rw [h3, dn_e, p_has, hasF hn (Or.inl (by decide)), if_pos rfl]
/-- two parts joined, the class's side: only the stack 28 is written -/
theorem p_joined0 {ln : Nat → Nat} {N : Nat} {S : HC} {b n ch : Nat} {f : Nat → Nat → Int32} {o : Option ((Nat → Int32) × Nat)} {l r : Int32} {post : Int32 → HC → Prop} (hs : SH S) (hl : LN ln) (hk : LK ln N S b n f o) (h : ∀ S', (∀ q k, q ≠ 28 → hI S' q k = hI S q k) → (∀ q k, hR S' q k = hR S q k) → post (JF o l r (nI ch)) S') : BX4_joined_54 ln post S 25 (nI ch) l r := by
  unfold BX4_joined_54 BX4_joined_89
  rw [lt_e, lt_e]
  rcases hk.2.2.2.2 with ⟨e1, e2⟩ | ⟨q, t, c, am, -, e1, e2, e3⟩
  · rw [e1, cO_n, ne_e (by decide)]
    try rw [lt_e]
    rw [p_xwithin (by decide)]
    have k := h S (fun _ _ _ => rfl) (fun _ _ => rfl)
    rw [e2] at k
    exact k
  · rw [e1, cO_s]
    try rw [lt_e]
    rw [sh25_2 hs, dn_e, dn_e]
    refine p_give (ln28 hl) (by decide) e2 (fun S1 x1 => ?_)
    rw [p_xwithin (by decide)]
    have k := h S1 x1.2.1 x1.2.2
    rw [e3] at k
    have ev : evF l r (nI ch) (fun i => hI S am (117 + 96 * t + i)) c 0 (hI S 28) 0 0 = evF l r (nI ch) (fun i => hI S am (117 + 96 * t + i)) c 0 (fun _ => 0) 0 0 := evF_ag c 0 0 1 _ _ e2.2.2.2.2.2.2.2.1 (fun j hj => absurd hj (by omega)) 0 (by decide)
    rw [ev]
    exact k
theorem p_joined {ln : Nat → Nat} {N : Nat} {S : HC} {b n ch p : Nat} {f : Nat → Nat → Int32} {o : Option ((Nat → Int32) × Nat)} {mo : Int32} {T : Nat → Int32} {post : Int32 → HC → Prop} (hs : SH S) (hl : LN ln) (hk : LK ln N S b n f o) (h14 : n ≤ 14) (hc : ch < 8) (hp : p < n) (hm : mo = -1 ∨ ∃ m, m < n ∧ mo = nI m) (hT : ∀ j, j < n → hI S 26 (14 * ch + j) = T j) (h : ∀ S', (∀ q k, q ≠ 28 → hI S' q k = hI S q k) → (∀ q k, hR S' q k = hR S q k) → post (JF o (T p) (if ¬ mo = -1 ∧ herP n f (ixN mo) then T (ixN mo) else T p) (nI ch)) S') : wpX4_joined ln S 25 (nI p) mo (nI ch) post := by
  unfold wpX4_joined BX4_joined_35 BX4_joined_36
  rw [p_hidden hs hl hk.1 hk.2.2.1 h14 hp hc, hT p hp, hk.1, dn_e, p_has]
  rcases hm with rfl | ⟨m, hm, rfl⟩
  · rw [hasF hk.2.2.1 (Or.inl (by decide)), if_pos rfl, if_pos rfl]
    refine p_joined0 hs hl hk (fun S' q1 q2 => ?_)
    have k := h S' q1 q2
    rw [if_neg (fun u => u.1 rfl)] at k
    exact k
  · rw [hasT hk.2.2.1 h14 hm, if_neg (by decide), lt_e, lt_e, lt_e, hk.2.1, bit_e _ (by omega), herB_bit (by omega) n (by omega)]
    by_cases e : herP n f m
    · rw [decide_eq_true (And.intro hm e), if_pos rfl, if_pos rfl, if_neg (by decide), p_hidden hs hl hk.1 hk.2.2.1 h14 hm hc, hT m hm]
      refine p_joined0 hs hl hk (fun S' q1 q2 => ?_)
      have k := h S' q1 q2
      rw [ixN_e (by omega), if_pos ⟨m1_ne (by omega), e⟩] at k
      exact k
    · rw [decide_eq_false (fun u => e u.2), if_neg (show ¬ (false = true) by decide), if_neg (show ¬ (0 : Int32) = 1 by decide), if_pos rfl]
      refine p_joined0 hs hl hk (fun S' q1 q2 => ?_)
      have k := h S' q1 q2
      rw [ixN_e (by omega), if_neg (fun u => e u.2)] at k
      exact k
-- 46.pworkout.lean.txt
/-! shields: one charge worked out, the class's side -/
theorem LK.ag {ln : Nat → Nat} {N : Nat} {S S' : HC} {b n : Nat} {f : Nat → Nat → Int32} {o : Option ((Nat → Int32) × Nat)} (h : LK ln N S b n f o) (hb : LB b) (h1 : ∀ q k, q ≠ 26 → q ≠ 28 → hI S' q k = hI S q k) (h2 : ∀ q k, hR S' q k = hR S q k) : LK ln N S' b n f o := by
  obtain ⟨a1, a2, a3, a4, a5⟩ := h
  have bb : ∀ i, i ≤ 6 → b + i ≠ 26 ∧ b + i ≠ 28 := fun i hi => by rcases hb with rfl | rfl | rfl | rfl <;> omega
  refine ⟨by rw [h2]; exact a1, by rw [h1 _ _ (by decide) (by decide)]; exact a2, by rw [h1 b 6 (bb 0 (by decide)).1 (bb 0 (by decide)).2]; exact a3, fun k hk j hj => ?_, ?_⟩
  · have := a4 k hk j hj
    unfold xf at *
    rw [h1 _ _ (by have := (bb (1 + k) (by omega)).1; omega) (by have := (bb (1 + k) (by omega)).2; omega)]
    exact this
  · rcases a5 with ⟨e1, e2⟩ | ⟨q, t, c, am, ham, e1, e2, e3⟩
    · exact Or.inl ⟨by rw [h2]; exact e1, e2⟩
    · refine Or.inr ⟨q, t, c, am, ham, by rw [h2]; exact e1, e2.ag (fun r k u => h1 r k (by omega) (by omega)) (fun r k _ => h2 r k) (fun k _ => h1 _ _ (by omega) (by omega)), ?_⟩
      rw [e3]
      congr 2
      funext i
      exact (h1 _ _ (by omega) (by omega)).symm
theorem pt1_ag {n : Nat} {f : Nat → Nat → Int32} {o : Option ((Nat → Int32) × Nat)} {ch : Int32} {T T' : Nat → Int32} {i : Nat} (hv : VP n f) (hi : i < n) (h14 : n ≤ 14) (hT : ∀ j, j < i → T j = T' j) : ptH n f o ch T i = ptH n f o ch T' i ∧ pt1 n f o ch T i = pt1 n f o ch T' i := by
  have hm : ¬ f 2 i = -1 → T (ixN (f 2 i)) = T' (ixN (f 2 i)) := fun u => by
    rcases hv.mot hi with e | ⟨p, hp, e⟩
    · exact absurd e u
    · rw [e, ixN_e (by omega)]; exact hT p hp
  have hh : ptH n f o ch T i = ptH n f o ch T' i := by
    unfold ptH
    rcases hv.fat hi with e | ⟨p, hp, e⟩
    · rw [if_pos e, if_pos e]
    · have ne : ¬ f 1 i = -1 := by rw [e]; exact m1_ne (by omega)
      rw [if_neg ne, if_neg ne, e, ixN_e (by omega), hT p hp]
      by_cases u : ¬ f 2 i = -1 ∧ herP n f (ixN (f 2 i))
      · rw [if_pos u, if_pos u, hm u.1]
      · rw [if_neg u, if_neg u]
  refine ⟨hh, ?_⟩
  unfold pt1
  rw [hh]
  by_cases u : f 2 i = -1
  · rw [if_pos u, if_pos u]
  · rw [if_neg u, if_neg u, hm u]
theorem p_asHeir {ln : Nat → Nat} {N : Nat} {S : HC} {b n ch p : Nat} {f : Nat → Nat → Int32} {o : Option ((Nat → Int32) × Nat)} {post : Int32 → HC → Prop} (hs : SH S) (hl : LN ln) (hb : LB b) (hk : LK ln N S b n f o) (hv : VP n f) (h14 : n ≤ 14) (hc : ch < 8) (hp : p < n) (h : ∀ S', (∀ q k, q ≠ 28 → hI S' q k = hI S q k) → (∀ q k, hR S' q k = hR S q k) → post (ptH n f o (nI ch) (fun j => hI S 26 (14 * ch + j)) p) S') : wpX4_asHeir ln S 25 (nI p) (nI ch) post := by
  have ef : ∀ k, k < 6 → hI S (b + 1 + k) p = f k p := fun k q => hk.2.2.2.1 k q p hp
  unfold wpX4_asHeir
  rw [hk.1, dn_e, lb_r hs hb (i := 1) (by decide), dn_e, lb_n hl hb (i := 1) (by decide), al_e (by omega) (by decide), ef 1 (by decide)]
  unfold ptH at h
  rcases hv.fat hp with e | ⟨fa, hfa, e⟩
  · rw [if_pos e] at h ⊢
    rw [dn_e, lb_r hs hb (i := 4) (by decide), dn_e, lb_n hl hb (i := 4) (by decide), al_e (by omega) (by decide), ef 4 (by decide)]
    have k := h S (fun _ _ _ => rfl) (fun _ _ => rfl)
    by_cases u : f 4 p = nI ch
    · rw [if_pos u] at k ⊢; exact k
    · rw [if_neg u] at k ⊢; exact k
  · have ne : ¬ f 1 p = -1 := by rw [e]; exact m1_ne (by omega)
    rw [if_neg ne] at h ⊢
    rw [dn_e, lb_r hs hb (i := 1) (by decide), dn_e, lb_n hl hb (i := 1) (by decide), al_e (by omega) (by decide), ef 1 (by decide), dn_e, lb_r hs hb (i := 2) (by decide), dn_e, lb_n hl hb (i := 2) (by decide), al_e (by omega) (by decide), ef 2 (by decide), e]
    refine p_joined (T := fun j => hI S 26 (14 * ch + j)) hs hl hk h14 hc (by omega) ?_ (fun _ _ => rfl) (fun S' q1 q2 => ?_)
    · rcases hv.mot hp with u | ⟨m, hm, u⟩
      · exact Or.inl u
      · exact Or.inr ⟨m, by omega, u⟩
    · have k := h S' q1 q2
      rw [e, ixN_e (by omega)] at k
      exact k
-- 47.pworkout2.lean.txt
/-! shields: the class's side, on -/
theorem dec2_e {h : Int32} (hh : V64 h) : (if 0 < h - 2 then h - 2 else 0) = if 2 ≤ h then h - 2 else 0 := by
  obtain ⟨c, hc, rfl⟩ := hh
  by_cases e : 2 ≤ c
  · rw [show nI c - 2 = nI (c - 2) from pk_sub (b := 2) e, if_pos (show (2 : Int32) ≤ nI c from nI_le (a := 2) e (by omega))]
    by_cases e2 : c = 2
    · subst e2; decide
    · rw [if_pos (show (0 : Int32) < nI (c - 2) from nI_lt (a := 0) (by omega) (by omega))]
  · rcases (show c = 0 ∨ c = 1 by omega) with rfl | rfl <;> decide
theorem p_byKind {ln : Nat → Nat} {N : Nat} {S : HC} {b n ch p : Nat} {f : Nat → Nat → Int32} {o : Option ((Nat → Int32) × Nat)} {hv0 : Int32} {post : Int32 → HC → Prop} (hs : SH S) (hl : LN ln) (hb : LB b) (hk : LK ln N S b n f o) (hv : VP n f) (h14 : n ≤ 14) (hc : ch < 8) (hp : p < n) (hh : V64 hv0) (h : post (byK (f 0 p) (f 4 p = nI ch) hv0 (if f 2 p = -1 then 0 else hI S 26 (14 * ch + ixN (f 2 p)))) S) : wpX4_byKind ln S 25 (nI p) (nI ch) hv0 post := by
  have ef : ∀ k, k < 6 → hI S (b + 1 + k) p = f k p := fun k q => hk.2.2.2.1 k q p hp
  have main : ∀ t0 : Int32, (t0 = if f 4 p = nI ch then 1 else 0) → BX4_byKind_27 ln post S 25 (nI p) (nI ch) hv0 (if 2 ≤ hv0 then hv0 - 2 else 0) t0 := fun t0 et => by
    unfold BX4_byKind_27
    rw [hk.1, dn_e, lb_r hs hb (i := 0) (by decide), dn_e, lb_n hl hb (i := 0) (by decide), al_e (by omega) (by decide), ef 0 (by decide)]
    unfold byK at h
    by_cases k1 : f 0 p = 1
    · rw [if_pos k1] at h ⊢; exact h
    rw [if_neg k1] at h ⊢
    by_cases k2 : f 0 p = 2
    · rw [if_pos k2] at h ⊢
      by_cases u : f 4 p = nI ch
      · rw [if_pos u] at h et
        rw [et, if_neg (by decide)]; exact h
      · rw [if_neg u] at h et
        rw [et, if_pos rfl]; exact h
    rw [if_neg k2] at h ⊢
    by_cases k3 : f 0 p = 3
    · rw [if_pos k3] at h ⊢
      rw [ne_e (by decide), lt_e]; exact h
    rw [if_neg k3] at h ⊢
    by_cases k4 : f 0 p = 4
    · rw [if_pos k4] at h ⊢
      by_cases u : f 4 p = nI ch
      · rw [if_pos u] at h et
        rw [et, if_neg (by decide)]; exact h
      · rw [if_neg u] at h et
        rw [et, if_pos rfl]; exact h
    rw [if_neg k4] at h ⊢
    by_cases k5 : f 0 p = 5
    · rw [if_pos k5] at h ⊢
      rw [dn_e, lb_r hs hb (i := 2) (by decide), dn_e, lb_n hl hb (i := 2) (by decide), al_e (by omega) (by decide), ef 2 (by decide)]
      rcases hv.mot hp with u | ⟨m, hm, u⟩
      · rw [if_pos u] at h
        rw [u, p_hidden0 hk.1 hk.2.2.1]; exact h
      · rw [u, if_neg (m1_ne (by omega)), ixN_e (by omega)] at h
        rw [u, p_hidden hs hl hk.1 hk.2.2.1 h14 (by omega) hc]; exact h
    · rw [if_neg k5] at h ⊢; exact h
  unfold wpX4_byKind
  rw [lt_e, lt_e, dec2_e hh, hk.1, dn_e, lb_r hs hb (i := 4) (by decide), dn_e, lb_n hl hb (i := 4) (by decide), al_e (by omega) (by decide), ef 4 (by decide)]
  by_cases u : f 4 p = nI ch
  · rw [if_pos u]; exact main 1 (by rw [if_pos u])
  · rw [if_neg u]; exact main 0 (by rw [if_neg u])
/-- the first i parts of the charge ch stand in 26 -/
def WO (S S' : HC) (ch i : Nat) (T : Nat → Int32) : Prop := (∀ q k, q ≠ 26 → q ≠ 28 → hI S' q k = hI S q k) ∧ (∀ k, ¬ (14 * ch ≤ k ∧ k < 14 * ch + i) → hI S' 26 k = hI S 26 k) ∧ (∀ j, j < i → hI S' 26 (14 * ch + j) = T j) ∧ ∀ q k, hR S' q k = hR S q k
theorem p_workOut {ln : Nat → Nat} {N : Nat} {S : HC} {b n ch : Nat} {f : Nat → Nat → Int32} {o : Option ((Nat → Int32) × Nat)} {post : HC → Prop} (hs : SH S) (hl : LN ln) (hb : LB b) (hk : LK ln N S b n f o) (hv : VP n f) (h14 : n ≤ 14) (hc : ch < 8) (h : ∀ S', WO S S' ch n (ptT n f o (nI ch) n) → post S') : wpX4_workOut ln S 25 (nI ch) post := by
  have key : ∀ m i S', i + m = n → WO S S' ch i (ptT n f o (nI ch) i) → LX4_workOut_2 ln post (m + 1) S' 25 (nI ch) (nI i) := by
    intro m
    induction m with
    | zero =>
      intro i S' hi hw
      have k' := hk.ag hb hw.1 hw.2.2.2
      rw [LX4_workOut_2]
      dsimp only
      rw [k'.1, dn_e, lt_e, k'.2.2.1, if_pos (nI_le (by omega) (by omega))]
      have e : i = n := by omega
      subst e
      exact h S' hw
    | succ m ih =>
      intro i S' hi hw
      have k' := hk.ag hb hw.1 hw.2.2.2
      have hs' : SH S' := hs.of (fun _ _ => hw.2.2.2 _ _)
      rw [LX4_workOut_2]
      dsimp only
      rw [k'.1, dn_e, lt_e, k'.2.2.1, if_neg (nI_ge (by omega) (by omega)), sh25_0 hs', dn_e, lt_e, lt_e]
      refine p_asHeir hs' hl hb k' hv h14 hc (by omega) (fun S1 q1 q2 => ?_)
      have k1 := k'.ag hb (fun q k _ u => q1 q k u) q2
      have hs1 : SH S1 := hs'.of (fun _ _ => q2 _ _)
      refine p_byKind hs1 hl hb k1 hv h14 hc (by omega) ptH_ok ?_
      rw [show nI ch * 14 = nI (ch * 14) from pk_mul ch 14, nI_add, ln26 hl, as_e (by omega) (by decide), lt_e, nI_1, Nat.mul_comm ch 14]
      have ag := pt1_ag (o := o) (ch := nI ch) (T := fun j => hI S' 26 (14 * ch + j)) (T' := ptT n f o (nI ch) i) hv (show i < n by omega) h14 (fun j hj => hw.2.2.1 j hj)
      have e1 : (fun j => hI S1 26 (14 * ch + j)) = fun j => hI S' 26 (14 * ch + j) := by funext j; exact q1 _ _ (by decide)
      have ev : byK (f 0 i) (f 4 i = nI ch) (ptH n f o (nI ch) (fun j => hI S' 26 (14 * ch + j)) i) (if f 2 i = -1 then 0 else hI S1 26 (14 * ch + ixN (f 2 i))) = pt1 n f o (nI ch) (ptT n f o (nI ch) i) i := by
        rw [← ag.2]
        unfold pt1
        rw [q1 26 _ (by decide)]
      rw [ev]
      refine ih (i + 1) _ (by omega) ⟨fun q k u1 u2 => ?_, fun k u => ?_, fun j hj => ?_, fun q k => ?_⟩
      · rw [hI_row u1, q1 q k u2]; exact hw.1 q k u1 u2
      · rw [hI_ne (by omega), q1 _ _ (by decide)]; exact hw.2.1 k (by omega)
      · rw [ptT]
        unfold upS
        by_cases u : j = i
        · subst u
          rw [if_pos rfl, hI_self]
        · rw [if_neg u, hI_ne (by omega), q1 _ _ (by decide)]; exact hw.2.2.1 j (by omega)
      · rw [hR_sI, q2]; exact hw.2.2.2 q k
  exact ⟨n + 1, key n 0 S (by omega) ⟨fun _ _ _ _ => rfl, fun _ _ => rfl, fun j hj => absurd hj (by omega), fun _ _ => rfl⟩⟩
-- 48.pworksof.lean.txt
/-! shields: the reference's side -/
/-- the reference's land and which law joins; b: the class's land with the same texts -/
def MK (ln : Nat → Nat) (N : Nat) (S : HC) (b n : Nat) (f : Nat → Nat → Int32) (o : Option ((Nat → Int32) × Nat)) : Prop := hI S 69 1 = nI n ∧ AG n (mf S 69) f ∧ ∃ m, m ≤ 14 ∧ hI S 69 4 = nI m ∧ (∀ t, t < m → ∃ q key c, hR S (b + 7) t = some q ∧ LAW ln N S q 69 t key c) ∧ ((lastL (ksM S 69) 0 m = -1 ∧ o = none) ∨ ∃ q t c, t < m ∧ lastL (ksM S 69) 0 m = nI t ∧ LAW ln N S q 69 t 0 c ∧ o = some (fun i => hI S 69 (117 + 96 * t + i), c))
def MC (S S' : HC) : Prop := (∀ q k, q ≠ 72 → q ≠ 80 → q ≠ 81 → hI S' q k = hI S q k) ∧ ∀ q k, hR S' q k = hR S q k
theorem MC.rf (S : HC) : MC S S := ⟨fun _ _ _ _ _ => rfl, fun _ _ => rfl⟩
theorem MC.tr {S S' S'' : HC} (h : MC S S') (h2 : MC S' S'') : MC S S'' := ⟨fun q k u1 u2 u3 => (h2.1 q k u1 u2 u3).trans (h.1 q k u1 u2 u3), fun q k => (h2.2 q k).trans (h.2 q k)⟩
theorem MC.sh {S S' : HC} (h : MC S S') (hs : SH S) : SH S' := hs.of (fun _ _ => h.2 _ _)
theorem MC.sm {S S' : HC} (h : MC S S') : Sm S S' := ⟨fun r k u => h.1 r k (fun e => u (by unfold sc; omega)) (fun e => u (by unfold sc; omega)) (fun e => u (by unfold sc; omega)), fun r k _ _ _ => h.2 r k⟩
theorem MK.ag {ln : Nat → Nat} {N : Nat} {S S' : HC} {b n : Nat} {f : Nat → Nat → Int32} {o : Option ((Nat → Int32) × Nat)} (h : MK ln N S b n f o) (e : MC S S') : MK ln N S' b n f o := by
  obtain ⟨a1, a2, m, m1, m2, m3, m4⟩ := h
  have e69 : ∀ k, hI S' 69 k = hI S 69 k := fun k => e.1 _ _ (by decide) (by decide) (by decide)
  have ks : ksM S' 69 = ksM S 69 := by funext t; unfold ksM; rw [e69]
  have la : ∀ {q t key c}, LAW ln N S q 69 t key c → LAW ln N S' q 69 t key c := fun u => u.ag (fun r k v => e.1 r k (by omega) (by omega) (by omega)) (fun r k _ => e.2 r k) (fun k _ => e69 k)
  refine ⟨by rw [e69]; exact a1, fun k hk j hj => ?_, m, m1, by rw [e69]; exact m2, fun t ht => ?_, ?_⟩
  · rw [← a2 k hk j hj]; exact e69 _
  · obtain ⟨q, key, c, q1, q2⟩ := m3 t ht
    exact ⟨q, key, c, by rw [e.2]; exact q1, la q2⟩
  · rw [ks]
    rcases m4 with u | ⟨q, t, c, u1, u2, u3, u4⟩
    · exact Or.inl u
    · refine Or.inr ⟨q, t, c, u1, u2, la u3, ?_⟩
      rw [u4]
      congr 2
      funext i
      exact (e69 _).symm
theorem p_mjoined {ln : Nat → Nat} {N : Nat} {S : HC} {b n ch : Nat} {f : Nat → Nat → Int32} {o : Option ((Nat → Int32) × Nat)} {l r : Int32} {post : Int32 → HC → Prop} (hs : SH S) (hl : LN ln) (hk : MK ln N S b n f o) (h1 : V64 l) (h2 : V64 r) (h : ∀ S', MC S S' → (∀ k, hI S' 72 k = hI S 72 k) → post (JF o l r (nI ch)) S') : wpX8_joined ln S 68 l r (nI ch) post := by
  obtain ⟨a1, a2, m, m1, m2, m3, m4⟩ := id hk
  unfold wpX8_joined
  refine p_counts (key := 0) hs hl (by decide) m1 m2 m3 ?_
  rw [sh68_23 hs, dn_e, ln81 hl, as_l0 (by decide) (by decide), sh68_23 (hs.sI _ _ _), dn_e, ln81 hl, as_l1 (by decide) (by decide), sh68_23 ((hs.sI _ _ _).sI _ _ _), dn_e, ln81 hl, as_l2 (by decide) (by decide)]
  have c1 : MC S (sI (sI (sI S 81 0 l) 81 1 r) 81 2 (nI ch)) := ⟨fun q k _ _ u => by rw [hI_row u, hI_row u, hI_row u], fun _ _ => rfl⟩
  rcases m4 with ⟨e1, e2⟩ | ⟨q, t, c, u1, u2, u3, u4⟩
  · rw [e1, if_neg (by decide), lt_e, ne_e (by decide), lt_e]
    have k := h _ c1 (fun k => by rw [hI_row (by decide), hI_row (by decide), hI_row (by decide)])
    rw [e2] at k
    unfold JF at k
    dsimp only at k
    rw [cl64_id (half_ok h1 h2)] at k
    exact k
  · rw [u2, if_pos (nI_pos' (by omega))]
    have u5 : LAW ln N (sI (sI (sI S 81 0 l) 81 1 r) 81 2 (nI ch)) q 69 t 0 c := u3.ag (fun r k v => c1.1 r k (by omega) (by omega) (by omega)) (fun r k _ => rfl) (fun k _ => c1.1 _ _ (by decide) (by decide) (by decide))
    refine p_worksOut (a := l) (b := r) (e := nI ch) (((hs.sI _ _ _).sI _ _ _).sI _ _ _) hl (by omega) u5 (by rw [hI_ne (by decide), hI_ne (by decide), hI_self]) (by rw [hI_ne (by decide), hI_self]) (fun _ => hI_self _ _ _ _) (fun S3 x3 => ?_)
    rw [p_mwithin]
    have k := h S3 (c1.tr ⟨fun q k _ v _ => x3.2.1 q k v, x3.2.2⟩) (fun k => by rw [x3.2.1 _ _ (by decide), hI_row (by decide), hI_row (by decide), hI_row (by decide)])
    rw [u4] at k
    have ec : (fun i => hI (sI (sI (sI S 81 0 l) 81 1 r) 81 2 (nI ch)) 69 (117 + 96 * t + i)) = fun i => hI S 69 (117 + 96 * t + i) := by
      funext i; exact c1.1 _ _ (by decide) (by decide) (by decide)
    rw [ec]
    have ev : evF l r (nI ch) (fun i => hI S 69 (117 + 96 * t + i)) c 0 (hI (sI (sI (sI S 81 0 l) 81 1 r) 81 2 (nI ch)) 80) 0 0 = evF l r (nI ch) (fun i => hI S 69 (117 + 96 * t + i)) c 0 (fun _ => 0) 0 0 := evF_ag c 0 0 1 _ _ u3.2.2.2.2.2.2.2.1 (fun j hj => absurd hj (by omega)) 0 (by decide)
    rw [ev]
    exact k
theorem p_childOf {ln : Nat → Nat} {N : Nat} {S : HC} {b n ch p : Nat} {f : Nat → Nat → Int32} {o : Option ((Nat → Int32) × Nat)} {mo : Int32} {T : Nat → Int32} {post : Int32 → HC → Prop} (hs : SH S) (hl : LN ln) (hk : MK ln N S b n f o) (hv : VP n f) (h14 : n ≤ 14) (hc : ch < 8) (hp : p < n) (hm : mo = -1 ∨ ∃ m, m < n ∧ mo = nI m ∧ hI S 72 (8 * m + ch) = T m ∧ V64 (T m)) (hT : hI S 72 (8 * p + ch) = T p) (hT2 : V64 (T p)) (h : ∀ S', MC S S' → (∀ k, hI S' 72 k = hI S 72 k) → post (JF o (T p) (if ¬ mo = -1 ∧ herP n f (ixN mo) then T (ixN mo) else T p) (nI ch)) S') : wpX8_childOf ln S 68 (nI p) mo (nI ch) post := by
  unfold wpX8_childOf BX8_childOf_42 BX8_childOf_44
  rw [sh68_4 hs, dn_e]
  simp only [lt_e]
  rw [show (8 : Int32) * nI p = nI (8 * p) from pk_mul 8 p, nI_add, ln72 hl, al_e (by omega) (by decide), hT]
  rcases hm with rfl | ⟨m, hm, rfl, t1, t2⟩
  · rw [if_pos (by decide)]
    refine p_mjoined hs hl hk hT2 hT2 (fun S' q1 q2 => ?_)
    have k := h S' q1 q2
    rw [if_neg (fun u => u.1 rfl)] at k
    exact k
  · rw [if_neg (nI_pos (by omega))]
    refine p_mHeir hs hl hk.1 hk.2.1 hv h14 hm (fun u => ?_) (fun u => ?_)
    · rw [if_neg (by decide), sh68_4 hs, dn_e, show (8 : Int32) * nI m = nI (8 * m) from pk_mul 8 m, nI_add, ln72 hl, al_e (by omega) (by decide), t1]
      refine p_mjoined hs hl hk hT2 t2 (fun S' q1 q2 => ?_)
      have k := h S' q1 q2
      rw [ixN_e (by omega), if_pos ⟨m1_ne (by omega), u⟩] at k
      exact k
    · rw [if_pos rfl]
      refine p_mjoined hs hl hk hT2 hT2 (fun S' q1 q2 => ?_)
      have k := h S' q1 q2
      rw [ixN_e (by omega), if_neg (fun v => u v.2)] at k
      exact k
-- 49.pworksof2.lean.txt
/-! shields: the reference's side, on -/
theorem p_worksPart {ln : Nat → Nat} {N : Nat} {S : HC} {b n ch i : Nat} {f : Nat → Nat → Int32} {o : Option ((Nat → Int32) × Nat)} {T : Nat → Int32} {post : Int32 → HC → Prop} (hs : SH S) (hl : LN ln) (hk : MK ln N S b n f o) (hv : VP n f) (h14 : n ≤ 14) (hc : ch < 8) (hi : i < n) (hT : ∀ j, j < i → hI S 72 (8 * j + ch) = T j) (hT2 : ∀ j, V64 (T j)) (h : ∀ S', MC S S' → (∀ k, hI S' 72 k = hI S 72 k) → post (pt1 n f o (nI ch) T i) S') : wpX8_worksPart ln S 68 (nI i) (nI ch) post := by
  have main : ∀ (t0 hv0 : Int32) (S1 : HC), (t0 = if f 4 i = nI ch then 1 else 0) → hv0 = ptH n f o (nI ch) T i → MC S S1 → (∀ k, hI S1 72 k = hI S 72 k) → BX8_worksPart_59 ln post S1 68 (nI i) (nI ch) t0 (f 2 i) hv0 := fun t0 hv0 S1 et eh c1 c2 => by
    have hs1 := c1.sh hs
    have k := h S1 c1 c2
    unfold pt1 at k
    rw [← eh] at k
    have m75 : BX8_worksPart_75 ln post S1 68 (nI i) (nI ch) t0 (f 2 i) hv0 (if 2 ≤ hv0 then hv0 - 2 else 0) := by
      unfold BX8_worksPart_75
      rw [p_of0 hs1 hl (by omega), (hk.ag c1).2.1 0 (by decide) i hi]
      unfold byK at k
      by_cases k1 : f 0 i = 1
      · rw [if_pos k1] at k ⊢; exact k
      rw [if_neg k1] at k ⊢
      by_cases k2 : f 0 i = 2
      · rw [if_pos k2] at k ⊢
        by_cases u : f 4 i = nI ch
        · rw [if_pos u] at k et
          rw [et, if_neg (by decide)]; exact k
        · rw [if_neg u] at k et
          rw [et, if_pos rfl]; exact k
      rw [if_neg k2] at k ⊢
      by_cases k3 : f 0 i = 3
      · rw [if_pos k3] at k ⊢
        rw [ne_e (by decide), lt_e]; exact k
      rw [if_neg k3] at k ⊢
      by_cases k4 : f 0 i = 4
      · rw [if_pos k4] at k ⊢
        by_cases u : f 4 i = nI ch
        · rw [if_pos u] at k et
          rw [et, if_neg (by decide)]; exact k
        · rw [if_neg u] at k et
          rw [et, if_pos rfl]; exact k
      rw [if_neg k4] at k ⊢
      by_cases k5 : f 0 i = 5
      · rw [if_pos k5] at k ⊢
        rcases hv.mot hi with u | ⟨m, hm, u⟩
        · rw [if_pos u] at k
          rw [u, if_neg (by decide)]; exact k
        · rw [u, if_neg (m1_ne (by omega)), ixN_e (by omega)] at k
          rw [u, if_pos (nI_pos' (by omega)), sh68_4 hs1, dn_e, lt_e, lt_e, show (8 : Int32) * nI m = nI (8 * m) from pk_mul 8 m, nI_add, ln72 hl, al_e (by omega) (by decide), c2, hT m hm]
          exact k
      · rw [if_neg k5] at k ⊢; exact k
    unfold BX8_worksPart_59
    by_cases u : 2 ≤ hv0
    · rw [if_pos u] at m75 ⊢
      rw [lt_e]; exact m75
    · rw [if_neg u] at m75 ⊢; exact m75
  have m15 : ∀ t0 : Int32, (t0 = if f 4 i = nI ch then 1 else 0) → BX8_worksPart_15 ln post S 68 (nI i) (nI ch) t0 := fun t0 et => by
    unfold BX8_worksPart_15
    rw [p_of1 hs hl (by omega), hk.2.1 1 (by decide) i hi, p_of2 hs hl (by omega), hk.2.1 2 (by decide) i hi]
    rcases hv.fat hi with e | ⟨fa, hfa, e⟩
    · rw [e, if_neg (by decide)]
      by_cases u : f 4 i = nI ch
      · have et2 := et
        rw [if_pos u] at et2
        rw [if_neg (by rw [et2]; decide)]
        exact main t0 64 S et (by unfold ptH; rw [if_pos e, if_pos u]) (MC.rf S) (fun _ => rfl)
      · have et2 := et
        rw [if_neg u] at et2
        rw [if_pos et2]
        exact main t0 0 S et (by unfold ptH; rw [if_pos e, if_neg u]) (MC.rf S) (fun _ => rfl)
    · rw [e, if_pos (nI_pos' (by omega))]
      refine p_childOf (T := T) hs hl hk hv h14 hc (by omega) ?_ (hT fa hfa) (hT2 fa) (fun S1 c1 c2 => ?_)
      · rcases hv.mot hi with u | ⟨m, hm, u⟩
        · exact Or.inl u
        · exact Or.inr ⟨m, by omega, u, hT m hm, hT2 m⟩
      · exact main t0 _ S1 et (by
          unfold ptH
          rw [if_neg (show ¬ f 1 i = -1 by rw [e]; exact m1_ne (by omega)), e, ixN_e (by omega)]) c1 c2
  unfold wpX8_worksPart
  rw [p_of4 hs hl (by omega), hk.2.1 4 (by decide) i hi]
  by_cases u : f 4 i = nI ch
  · rw [if_pos u]; exact m15 1 (by rw [if_pos u])
  · rw [if_neg u]; exact m15 0 (by rw [if_neg u])
def WM (S S' : HC) (ch i : Nat) (T : Nat → Int32) : Prop := MC S S' ∧ (∀ j, j < i → hI S' 72 (8 * j + ch) = T j) ∧ ∀ k, k % 8 ≠ ch → hI S' 72 k = hI S 72 k
theorem p_worksOf {ln : Nat → Nat} {N : Nat} {S : HC} {b n ch : Nat} {f : Nat → Nat → Int32} {o : Option ((Nat → Int32) × Nat)} {post : HC → Prop} (hs : SH S) (hl : LN ln) (hk : MK ln N S b n f o) (hv : VP n f) (h14 : n ≤ 14) (hc : ch < 8) (h : ∀ S', WM S S' ch n (ptT n f o (nI ch) n) → post S') : wpX8_worksOf ln S 68 (nI ch) post := by
  have key : ∀ m i S', i + m = n → WM S S' ch i (ptT n f o (nI ch) i) → LX8_worksOf_2 ln post (m + 1) S' 68 (nI ch) (nI i) := by
    intro m
    induction m with
    | zero =>
      intro i S' hi hw
      have k' := hk.ag hw.1
      rw [LX8_worksOf_2]
      dsimp only
      rw [sh68_0 (hw.1.sh hs), dn_e, ln69 hl, al_l1 (by decide) (by decide), k'.1, if_pos (nI_le (by omega) (by omega))]
      have e : i = n := by omega
      subst e
      exact h S' hw
    | succ m ih =>
      intro i S' hi hw
      have k' := hk.ag hw.1
      have hs' := hw.1.sh hs
      rw [LX8_worksOf_2]
      dsimp only
      rw [sh68_0 hs', dn_e, ln69 hl, al_l1 (by decide) (by decide), k'.1, if_neg (nI_ge (by omega) (by omega)), sh68_4 hs', dn_e, lt_e, lt_e]
      refine p_worksPart (T := ptT n f o (nI ch) i) hs' hl k' hv h14 hc (by omega) hw.2.1 (ptT_ok i) (fun S1 c1 c2 => ?_)
      rw [show (8 : Int32) * nI i = nI (8 * i) from pk_mul 8 i, nI_add, ln72 hl, as_e (by omega) (by decide), lt_e, nI_1]
      refine ih (i + 1) _ (by omega) ⟨hw.1.tr (c1.tr ⟨fun q k u _ _ => hI_row u, fun _ _ => rfl⟩), fun j hj => ?_, fun k u => ?_⟩
      · rw [ptT]
        unfold upS
        by_cases u : j = i
        · subst u
          rw [if_pos rfl, hI_self]
        · rw [if_neg u, hI_ne (by omega), c2]; exact hw.2.1 j (by omega)
      · rw [hI_ne (by omega), c2]; exact hw.2.2 k u
  exact ⟨n + 1, key n 0 S (by omega) ⟨MC.rf S, fun j hj => absurd hj (by omega), fun _ _ => rfl⟩⟩
-- 50.pbears.lean.txt
/-! shields: looked at; steps bears, sixteenth -/
theorem p_lookAt {ln : Nat → Nat} {N : Nat} {S : HC} {b n m : Nat} {f : Nat → Nat → Int32} {post : HC → Prop} (hs : SH S) (hl : LN ln) (hb : LB b) (hn : hI S b 6 = nI n) (hf : AG n (xf S b) f) (h14 : n ≤ 14) (hm1 : hI S 69 1 = nI n) (hm2 : AG n (mf S 69) f) (m1 : m ≤ 14) (m2 : hI S b 11 = nI m) (m3 : hI S 69 4 = nI m) (m4 : ∀ t, t < m → ∃ q key c, hR S (b + 7) t = some q ∧ LAW ln N S q 69 t key c) (h : ∀ S' o, LK ln N S' b n f o → MK ln N S' b n f o → (∀ r k, ¬ (r = 25 ∧ k = 5) → hI S' r k = hI S r k) → (∀ r k, ¬ (r = 25 ∧ (k = 3 ∨ k = 4)) → hR S' r k = hR S r k) → post S') : wpX4_lookAt ln S 25 b post := by
  have b25 : ∀ i, i ≤ 7 → b + i ≠ 25 := fun i hi => by rcases hb with rfl | rfl | rfl | rfl <;> omega
  unfold wpX4_lookAt
  rw [lt_e]
  have hs1 : SH (sR S 25 3 (some b)) := hs.sR _ (by decide)
  have la : ∀ {S' : HC} {q t key c}, (∀ r k, ¬ (r = 25 ∧ k = 5) → hI S' r k = hI S r k) → (∀ r k, ¬ (r = 25 ∧ (k = 3 ∨ k = 4)) → hR S' r k = hR S r k) → LAW ln N S q 69 t key c → LAW ln N S' q 69 t key c := fun e1 e2 u => u.ag (fun r k v => e1 r k (by omega)) (fun r k v => e2 r k (by omega)) (fun k _ => e1 _ _ (by omega))
  have r1 : ∀ r k, ¬ (r = 25 ∧ (k = 3 ∨ k = 4)) → hR (sR S 25 3 (some b)) r k = hR S r k := fun r k u => by rw [hR_sR, if_neg (by omega)]
  have w1 : ∀ t, t < m → ∃ q key c, hR (sR S 25 3 (some b)) (b + 7) t = some q ∧ LAW ln N (sR S 25 3 (some b)) q 69 t key c := fun t ht => by
    obtain ⟨q, key, c, q1, q2⟩ := m4 t ht
    exact ⟨q, key, c, by rw [r1 _ _ (by have := b25 7 (by decide); omega)]; exact q1, la (fun _ _ _ => rfl) r1 q2⟩
  have fin : ∀ (oq : Option Nat) (o : Option ((Nat → Int32) × Nat)), ((oq = none ∧ o = none ∧ lastL (ksM S 69) 0 m = -1) ∨ ∃ q t c, oq = some q ∧ t < m ∧ lastL (ksM S 69) 0 m = nI t ∧ LAW ln N S q 69 t 0 c ∧ o = some (fun i => hI S 69 (117 + 96 * t + i), c)) → lt_ (sR (sR S 25 3 (some b)) 25 4 oq) fun S => wpX0_heiresses ln S b fun z2 S => lt_ (sI S 25 5 z2) fun S => post S := fun oq o ho => by
    rw [lt_e]
    have hs2 : SH (sR (sR S 25 3 (some b)) 25 4 oq) := hs1.sR _ (by decide)
    refine p_heiresses hs2 hl hb hn hf h14 ?_
    rw [lt_e]
    have e1 : ∀ r k, ¬ (r = 25 ∧ k = 5) → hI (sI (sR (sR S 25 3 (some b)) 25 4 oq) 25 5 (herB n f n)) r k = hI S r k := fun r k u => by rw [hI_ne u]; rfl
    have e2 : ∀ r k, ¬ (r = 25 ∧ (k = 3 ∨ k = 4)) → hR (sI (sR (sR S 25 3 (some b)) 25 4 oq) 25 5 (herB n f n)) r k = hR S r k := fun r k u => by rw [hR_sI, hR_sR, if_neg (by omega), r1 r k u]
    refine h _ o ⟨?_, hI_self _ _ _ _, by rw [e1 _ _ (by have := b25 0 (by decide); omega)]; exact hn, fun k hk j hj => ?_, ?_⟩ ⟨by rw [e1 _ _ (by omega)]; exact hm1, fun k hk j hj => ?_, m, m1, by rw [e1 _ _ (by omega)]; exact m3, fun t ht => ?_, ?_⟩ e1 e2
    · rw [hR_sI, hR_sR, if_neg (by decide), hR_sR, if_pos ⟨rfl, rfl⟩]
    · rw [← hf k hk j hj]
      exact e1 _ _ (by have := b25 (1 + k) (by omega); omega)
    · have e4 : hR (sI (sR (sR S 25 3 (some b)) 25 4 oq) 25 5 (herB n f n)) 25 4 = oq := by rw [hR_sI, hR_sR, if_pos ⟨rfl, rfl⟩]
      rw [e4]
      rcases ho with ⟨u1, u2, -⟩ | ⟨q, t, c, u1, u2, u3, u4, u5⟩
      · exact Or.inl ⟨u1, u2⟩
      · refine Or.inr ⟨q, t, c, 69, Or.inl rfl, u1, la e1 e2 u4, ?_⟩
        rw [u5]
        congr 2
    · rw [← hm2 k hk j hj]
      exact e1 _ _ (by omega)
    · obtain ⟨q, key, c, q1, q2⟩ := m4 t ht
      exact ⟨q, key, c, by rw [e2 _ _ (by have := b25 7 (by decide); omega)]; exact q1, la e1 e2 q2⟩
    · have ks : ksM (sI (sR (sR S 25 3 (some b)) 25 4 oq) 25 5 (herB n f n)) 69 = ksM S 69 := by funext t; unfold ksM; rw [e1 _ _ (by omega)]
      rw [ks]
      rcases ho with ⟨u1, u2, u3⟩ | ⟨q, t, c, u1, u2, u3, u4, u5⟩
      · exact Or.inl ⟨u3, u2⟩
      · refine Or.inr ⟨q, t, c, u2, u3, la e1 e2 u4, ?_⟩
        rw [u5]
        congr 2
  have ks1 : ksM (sR S 25 3 (some b)) 69 = ksM S 69 := rfl
  refine p_lawFor (key := 0) (a := 69) hs1 hl hb (by decide) m1 m2 w1 (fun e => ?_) (fun t q c t1 t3 q1 q2 => ?_)
  · exact fin none none (Or.inl ⟨rfl, rfl, e⟩)
  · exact fin (some q) (some (fun i => hI S 69 (117 + 96 * t + i), c)) (Or.inr ⟨q, t, c, rfl, t1, t3, q2.ag (fun _ _ _ => rfl) (fun r k v => (r1 r k (by omega)).symm) (fun _ _ => rfl), rfl⟩)
/-- what one shows of a charge -/
def shV (f : Nat → Nat → Int32) (T : Nat → Int32) (ch p : Nat) : Int32 := if (f 5 p >>> (nI ch &&& 31)) &&& 1 = 1 then 0 else T p
theorem p_shown {ln : Nat → Nat} {N : Nat} {S : HC} {b n ch p : Nat} {f : Nat → Nat → Int32} {o : Option ((Nat → Int32) × Nat)} {T : Nat → Int32} {post : Int32 → HC → Prop} (hs : SH S) (hl : LN ln) (hb : LB b) (hk : LK ln N S b n f o) (h14 : n ≤ 14) (hc : ch < 8) (hp : p < n) (hT : hI S 26 (14 * ch + p) = T p) : wpX4_shown ln S 25 (nI p) (nI ch) post = post (shV f T ch p) S := by
  unfold wpX4_shown BX4_shown_28 shV
  rw [hk.1, dn_e, p_has, hasT hk.2.2.1 h14 hp, if_neg (by decide), hk.1, dn_e, lb_r hs hb (i := 5) (by decide), dn_e, lb_n hl hb (i := 5) (by decide), al_e (by omega) (by decide), lt_e, lt_e, show hI S (b + 1 + 5) p = f 5 p from hk.2.2.2.1 5 (by decide) p hp]
  by_cases u : (f 5 p >>> (nI ch &&& 31)) &&& 1 = 1
  · rw [if_pos u, if_pos u]
  · rw [if_neg u, if_neg u, p_hidden hs hl hk.1 hk.2.2.1 h14 hp hc, hT]
theorem p_borne {ln : Nat → Nat} {N : Nat} {S : HC} {b n ch p : Nat} {f : Nat → Nat → Int32} {o : Option ((Nat → Int32) × Nat)} {T : Nat → Int32} {post : Int32 → HC → Prop} (hs : SH S) (hl : LN ln) (hk : MK ln N S b n f o) (h14 : n ≤ 14) (hc : ch < 8) (hp : p < n) (hT : hI S 72 (8 * p + ch) = T p) : wpX8_borne ln S 68 (nI p) (nI ch) post = post (shV f T ch p) S := by
  unfold wpX8_borne shV
  rw [p_of5 hs hl (by omega), hk.2.1 5 (by decide) p hp, lt_e, lt_e]
  by_cases u : (f 5 p >>> (nI ch &&& 31)) &&& 1 = 1
  · rw [if_pos u, if_pos u]
  · rw [if_neg u, if_neg u, sh68_4 hs, dn_e, lt_e, lt_e, show (8 : Int32) * nI p = nI (8 * p) from pk_mul 8 p, nI_add, ln72 hl, al_e (by omega) (by decide), hT]
theorem LK.sm {ln : Nat → Nat} {N : Nat} {S S' : HC} {b n : Nat} {f : Nat → Nat → Int32} {o : Option ((Nat → Int32) × Nat)} (h : LK ln N S b n f o) (hb : LB b) (e : MC S S') : LK ln N S' b n f o := by
  obtain ⟨a1, a2, a3, a4, a5⟩ := h
  have bb : ∀ i, i ≤ 6 → b + i < 72 := fun i hi => by rcases hb with rfl | rfl | rfl | rfl <;> omega
  refine ⟨by rw [e.2]; exact a1, by rw [e.1 _ _ (by decide) (by decide) (by decide)]; exact a2, by rw [e.1 b 6 (by have := bb 0 (by decide); omega) (by have := bb 0 (by decide); omega) (by have := bb 0 (by decide); omega)]; exact a3, fun k hk j hj => ?_, ?_⟩
  · rw [← a4 k hk j hj]
    exact e.1 _ _ (by have := bb (1 + k) (by omega); omega) (by have := bb (1 + k) (by omega); omega) (by have := bb (1 + k) (by omega); omega)
  · rcases a5 with ⟨e1, e2⟩ | ⟨q, t, c, am, ham, e1, e2, e3⟩
    · exact Or.inl ⟨by rw [e.2]; exact e1, e2⟩
    · refine Or.inr ⟨q, t, c, am, ham, by rw [e.2]; exact e1, e2.ag (fun r k u => e.1 r k (by omega) (by omega) (by omega)) (fun r k _ => e.2 r k) (fun k _ => e.1 _ _ (by omega) (by omega) (by omega)), ?_⟩
      rw [e3]
      congr 2
      funext i
      exact (e.1 _ _ (by omega) (by omega) (by omega)).symm
theorem MK.wo {ln : Nat → Nat} {N : Nat} {S S' : HC} {b n : Nat} {f : Nat → Nat → Int32} {o : Option ((Nat → Int32) × Nat)} (h : MK ln N S b n f o) (h1 : ∀ q k, q ≠ 26 → q ≠ 28 → hI S' q k = hI S q k) (h2 : ∀ q k, hR S' q k = hR S q k) : MK ln N S' b n f o := by
  obtain ⟨a1, a2, m, m1, m2, m3, m4⟩ := h
  have e69 : ∀ k, hI S' 69 k = hI S 69 k := fun k => h1 _ _ (by decide) (by decide)
  have ks : ksM S' 69 = ksM S 69 := by funext t; unfold ksM; rw [e69]
  have la : ∀ {q t key c}, LAW ln N S q 69 t key c → LAW ln N S' q 69 t key c := fun u => u.ag (fun r k v => h1 r k (by omega) (by omega)) (fun r k _ => h2 r k) (fun k _ => e69 k)
  refine ⟨by rw [e69]; exact a1, fun k hk j hj => ?_, m, m1, by rw [e69]; exact m2, fun t ht => ?_, ?_⟩
  · rw [← a2 k hk j hj]; exact e69 _
  · obtain ⟨q, key, c, q1, q2⟩ := m3 t ht
    exact ⟨q, key, c, by rw [h2]; exact q1, la q2⟩
  · rw [ks]
    rcases m4 with u | ⟨q, t, c, u1, u2, u3, u4⟩
    · exact Or.inl u
    · refine Or.inr ⟨q, t, c, u1, u2, la u3, ?_⟩
      rw [u4]
      congr 2
      funext i
      exact (e69 _).symm
theorem s_bears {N : Nat} {ln : Nat → Nat} {S : HC} (h : PI N ln S) (a1 a2 : Int32) : wpX7_bears ln S 0 a1 a2 fun v S => wpX8_bears ln S 68 a1 a2 fun w S => OK N ln v w S := by
  obtain ⟨⟨hs, hl, -, -⟩, ⟨⟨n, hn⟩, m, m1, m2, m3, m4⟩, -⟩ := id h
  have h14 := hn.1
  have hv := hn.2.2.2.2.1
  unfold wpX7_bears BX7_bears_18
  rw [sh0_0 hs, dn_e, p_has]
  rcases i_in a1 n (by omega) with ⟨p, hp, rfl⟩ | hx
  · rw [hasT hn.2.1 h14 hp, if_neg (by decide), p_isCharge]
    by_cases c : 0 ≤ a2 ∧ a2 < 8
    · obtain ⟨ch, hc, rfl⟩ := ge_of (n := 8) (by decide) c
      rw [bI_t c, if_neg (by decide), sh0_4 hs, dn_e, sh0_0 hs, dn_e]
      refine p_lookAt (n := n) (m := m) (f := mf S 69) hs hl (Or.inl rfl) hn.2.1 hn.2.2.2.1 h14 hn.2.2.1 (fun _ _ _ _ => rfl) m1 m2 m3 m4 (fun S1 o k1 k2 e1 e2 => ?_)
      have s1 : Sm S S1 := ⟨fun r k u => e1 r k (fun v => u (by unfold sc; omega)), fun r k u _ _ => e2 r k u⟩
      have hs1 := hs.sm s1
      rw [sh0_4 hs1, dn_e]
      refine p_workOut hs1 hl (Or.inl rfl) k1 hv h14 hc (fun S2 w2 => ?_)
      have s2 : Sm S1 S2 := ⟨fun r k u => w2.1 r k (fun v => u (by unfold sc; omega)) (fun v => u (by unfold sc; omega)), fun r k _ _ _ => w2.2.2.2 r k⟩
      have hs2 := hs1.sm s2
      rw [sh0_4 hs2, dn_e, p_shown hs2 hl (Or.inl rfl) (k1.ag (Or.inl rfl) w2.1 w2.2.2.2) h14 hc hp (w2.2.2.1 p hp)]
      unfold wpX8_bears BX8_bears_15
      dsimp only
      have k2' := k2.wo w2.1 w2.2.2.2
      rw [p_isOne hs2 hl, oneT k2'.1 h14 hp, if_neg (by decide), p_mCharge, chE, bI_t c, if_neg (by decide)]
      refine p_worksOf hs2 hl k2' hv h14 hc (fun S3 w3 => ?_)
      rw [p_borne (w3.1.sh hs2) hl (k2'.ag w3.1) h14 hc hp (w3.2.1 p hp)]
      exact ⟨rfl, h.sm ((s1.tr s2).tr w3.1.sm)⟩
    · rw [bI_f c, if_pos rfl]
      unfold wpX8_bears BX8_bears_15
      dsimp only
      rw [p_isOne hs hl, oneT hn.2.2.1 h14 hp, if_neg (by decide), p_mCharge, chE, bI_f c, if_pos rfl]
      exact ⟨rfl, h⟩
  · rw [hasF hn.2.1 hx, if_pos rfl]
    unfold wpX8_bears BX8_bears_15
    dsimp only
    rw [p_isOne hs hl, oneF hn.2.2.1 h14 hx, if_pos rfl]
    exact ⟨rfl, h⟩
-- 51.psixteenth.lean.txt
/-! step: sixteenth -/
def shB (f : Nat → Nat → Int32) (T : Nat → Int32) (ch : Nat) (w : Int32) : Nat → Int32
  | 0 => 0
  | i + 1 => if w ≤ shV f T ch i then shB f T ch w i ||| ((1 : Int32) <<< (nI i &&& 31)) else shB f T ch w i
theorem p_bearersOf {ln : Nat → Nat} {N : Nat} {S : HC} {b n ch : Nat} {f : Nat → Nat → Int32} {o : Option ((Nat → Int32) × Nat)} {T : Nat → Int32} {w : Int32} {post : Int32 → HC → Prop} (hs : SH S) (hl : LN ln) (hb : LB b) (hk : LK ln N S b n f o) (h14 : n ≤ 14) (hc : ch < 8) (hT : ∀ p, p < n → hI S 26 (14 * ch + p) = T p) (h : post (shB f T ch w n) S) : wpX4_bearersOf ln S 25 (nI ch) w post := by
  have key : ∀ m i, i + m = n → LX4_bearersOf_5 ln post (m + 1) S 25 (nI ch) w (shB f T ch w i) (nI i) := by
    intro m
    induction m with
    | zero =>
      intro i hi
      rw [LX4_bearersOf_5]
      dsimp only
      rw [hk.1, dn_e, lt_e, hk.2.2.1, if_pos (nI_le (by omega) (by omega)), show i = n by omega]
      exact h
    | succ m ih =>
      intro i hi
      have k := ih (i + 1) (by omega)
      rw [shB] at k
      rw [LX4_bearersOf_5]
      dsimp only
      unfold BX4_bearersOf_35
      rw [hk.1, dn_e, lt_e, hk.2.2.1, if_neg (nI_ge (by omega) (by omega)), p_shown hs hl hb hk h14 hc (by omega) (hT i (by omega)), lt_e, lt_e, lt_e, nI_1]
      by_cases u : w ≤ shV f T ch i
      · rw [if_pos u] at k
        rw [if_neg (Int32.not_lt.mpr u)]
        try rw [lt_e]
        exact k
      · rw [if_neg u] at k
        rw [if_pos (Int32.not_le.mp u)]
        exact k
  exact ⟨n + 1, key n 0 (by omega)⟩
theorem p_m16 {ln : Nat → Nat} {N : Nat} {S : HC} {b n ch : Nat} {f : Nat → Nat → Int32} {o : Option ((Nat → Int32) × Nat)} {T : Nat → Int32} {post : Int32 → HC → Prop} (hs : SH S) (hl : LN ln) (hk : MK ln N S b n f o) (h14 : n ≤ 14) (hc : ch < 8) (hT : ∀ p, p < n → hI S 72 (8 * p + ch) = T p) (h : post (shB f T ch 4 n) S) : ∃ k, LX8_sixteenth_19 ln post k S 68 (nI ch) 0 0 := by
  have key : ∀ m i, i + m = n → LX8_sixteenth_19 ln post (m + 1) S 68 (nI ch) (shB f T ch 4 i) (nI i) := by
    intro m
    induction m with
    | zero =>
      intro i hi
      rw [LX8_sixteenth_19]
      dsimp only
      rw [sh68_0 hs, dn_e, ln69 hl, al_l1 (by decide) (by decide), hk.1, if_pos (nI_le (by omega) (by omega)), show i = n by omega]
      exact h
    | succ m ih =>
      intro i hi
      have k := ih (i + 1) (by omega)
      rw [shB] at k
      rw [LX8_sixteenth_19]
      dsimp only
      unfold BX8_sixteenth_47
      rw [sh68_0 hs, dn_e, ln69 hl, al_l1 (by decide) (by decide), hk.1, if_neg (nI_ge (by omega) (by omega)), p_borne hs hl hk h14 hc (by omega) (hT i (by omega))]
      simp only [lt_e]
      rw [nI_1, Int32.or_zero]
      by_cases u : 4 ≤ shV f T ch i
      · rw [if_pos u] at k ⊢
        exact k
      · rw [if_neg u] at k ⊢
        exact k
  exact ⟨n + 1, key n 0 (by omega)⟩
theorem s_sixteenth {N : Nat} {ln : Nat → Nat} {S : HC} (h : PI N ln S) (a1 : Int32) : wpX7_sixteenth ln S 0 a1 fun v S => wpX8_sixteenth ln S 68 a1 fun w S => OK N ln v w S := by
  obtain ⟨⟨hs, hl, -, -⟩, ⟨⟨n, hn⟩, m, m1, m2, m3, m4⟩, -⟩ := id h
  have h14 := hn.1
  have hv := hn.2.2.2.2.1
  unfold wpX7_sixteenth
  rw [p_isCharge]
  by_cases c : 0 ≤ a1 ∧ a1 < 8
  · obtain ⟨ch, hc, rfl⟩ := ge_of (n := 8) (by decide) c
    rw [bI_t c, if_neg (by decide), sh0_4 hs, dn_e, sh0_0 hs, dn_e]
    refine p_lookAt (n := n) (m := m) (f := mf S 69) hs hl (Or.inl rfl) hn.2.1 hn.2.2.2.1 h14 hn.2.2.1 (fun _ _ _ _ => rfl) m1 m2 m3 m4 (fun S1 o k1 k2 e1 e2 => ?_)
    have s1 : Sm S S1 := ⟨fun r k u => e1 r k (fun v => u (by unfold sc; omega)), fun r k u _ _ => e2 r k u⟩
    have hs1 := hs.sm s1
    rw [sh0_4 hs1, dn_e]
    refine p_workOut hs1 hl (Or.inl rfl) k1 hv h14 hc (fun S2 w2 => ?_)
    have s2 : Sm S1 S2 := ⟨fun r k u => w2.1 r k (fun v => u (by unfold sc; omega)) (fun v => u (by unfold sc; omega)), fun r k _ _ _ => w2.2.2.2 r k⟩
    have hs2 := hs1.sm s2
    rw [sh0_4 hs2, dn_e]
    refine p_bearersOf hs2 hl (Or.inl rfl) (k1.ag (Or.inl rfl) w2.1 w2.2.2.2) h14 hc w2.2.2.1 ?_
    unfold wpX8_sixteenth
    dsimp only
    have k2' := k2.wo w2.1 w2.2.2.2
    rw [p_mCharge, chE, bI_t c, if_neg (by decide)]
    refine p_worksOf hs2 hl k2' hv h14 hc (fun S3 w3 => ?_)
    exact p_m16 (w3.1.sh hs2) hl (k2'.ag w3.1) h14 hc w3.2.1 ⟨rfl, h.sm ((s1.tr s2).tr w3.1.sm)⟩
  · rw [bI_f c, if_pos rfl]
    unfold wpX8_sixteenth
    dsimp only
    rw [p_mCharge, chE, bI_f c, if_pos rfl]
    exact ⟨rfl, h⟩
-- 52.pall.lean.txt
/-! shields: all the charges worked out, both sides -/
def AO (S S' : HC) (n i : Nat) (T : Nat → Nat → Int32) : Prop := (∀ q k, q ≠ 26 → q ≠ 28 → hI S' q k = hI S q k) ∧ (∀ ch j, ch < i → j < n → hI S' 26 (14 * ch + j) = T ch j) ∧ ∀ q k, hR S' q k = hR S q k
theorem p_allOut {ln : Nat → Nat} {N : Nat} {S : HC} {b n : Nat} {f : Nat → Nat → Int32} {o : Option ((Nat → Int32) × Nat)} {post : HC → Prop} (hs : SH S) (hl : LN ln) (hb : LB b) (hk : LK ln N S b n f o) (hv : VP n f) (h14 : n ≤ 14) (h : ∀ S', AO S S' n 8 (fun ch => ptT n f o (nI ch) n) → post S') : ∃ k, LX4_workOutAll_7 ln post k S 25 0 := by
  have key : ∀ m i S', i + m = 8 → AO S S' n i (fun ch => ptT n f o (nI ch) n) → LX4_workOutAll_7 ln post (m + 1) S' 25 (nI i) := by
    intro m
    induction m with
    | zero =>
      intro i S' hi hw
      have e : i = 8 := by omega
      subst e
      rw [LX4_workOutAll_7]
      dsimp only
      rw [if_pos (by decide)]
      exact h S' hw
    | succ m ih =>
      intro i S' hi hw
      rw [LX4_workOutAll_7]
      dsimp only
      rw [if_neg (show ¬ (8 : Int32) ≤ nI i from nI_ge (b := 8) (by omega) (by decide))]
      refine p_workOut (hs.of (fun _ _ => hw.2.2 _ _)) hl hb (hk.ag hb hw.1 hw.2.2) hv h14 (by omega) (fun S1 w1 => ?_)
      rw [lt_e, nI_1]
      refine ih (i + 1) S1 (by omega) ⟨fun q k u1 u2 => by rw [w1.1 q k u1 u2, hw.1 q k u1 u2], fun ch j u1 u2 => ?_, fun q k => by rw [w1.2.2.2, hw.2.2]⟩
      by_cases e : ch = i
      · subst e; exact w1.2.2.1 j u2
      · rw [w1.2.1 _ (by omega)]; exact hw.2.1 ch j (by omega) u2
  exact ⟨9, key 8 0 S (by omega) ⟨fun _ _ _ _ => rfl, fun _ _ u _ => absurd u (by omega), fun _ _ => rfl⟩⟩
def AM (S S' : HC) (n i : Nat) (T : Nat → Nat → Int32) : Prop := MC S S' ∧ ∀ ch j, ch < i → j < n → hI S' 72 (8 * j + ch) = T ch j
theorem p_worksAll {ln : Nat → Nat} {N : Nat} {S : HC} {b n : Nat} {f : Nat → Nat → Int32} {o : Option ((Nat → Int32) × Nat)} {post : HC → Prop} (hs : SH S) (hl : LN ln) (hk : MK ln N S b n f o) (hv : VP n f) (h14 : n ≤ 14) (h : ∀ S', AM S S' n 8 (fun ch => ptT n f o (nI ch) n) → post S') : wpX8_worksAll ln S 68 post := by
  have key : ∀ m i S', i + m = 8 → AM S S' n i (fun ch => ptT n f o (nI ch) n) → LX8_worksAll_2 ln post (m + 1) S' 68 (nI i) := by
    intro m
    induction m with
    | zero =>
      intro i S' hi hw
      have e : i = 8 := by omega
      subst e
      rw [LX8_worksAll_2]
      dsimp only
      rw [if_pos (by decide)]
      exact h S' hw
    | succ m ih =>
      intro i S' hi hw
      rw [LX8_worksAll_2]
      dsimp only
      rw [if_neg (show ¬ (8 : Int32) ≤ nI i from nI_ge (b := 8) (by omega) (by decide))]
      refine p_worksOf (hw.1.sh hs) hl (hk.ag hw.1) hv h14 (by omega) (fun S1 w1 => ?_)
      rw [lt_e, nI_1]
      refine ih (i + 1) S1 (by omega) ⟨hw.1.tr w1.1, fun ch j u1 u2 => ?_⟩
      by_cases e : ch = i
      · subst e; exact w1.2.1 j u2
      · rw [w1.2.2 _ (by omega)]; exact hw.2 ch j (by omega) u2
  exact ⟨9, key 8 0 S (by omega) ⟨MC.rf S, fun _ _ u _ => absurd u (by omega)⟩⟩
/-- all that one shows: the same of two -/
abbrev alk (f : Nat → Nat → Int32) (T : Nat → Nat → Int32) (p q : Nat) : Prop := ∀ ch, ch < 8 → shV f (T ch) ch p = shV f (T ch) ch q
theorem p_areAlike {ln : Nat → Nat} {N : Nat} {S : HC} {b n p q : Nat} {f : Nat → Nat → Int32} {o : Option ((Nat → Int32) × Nat)} {T : Nat → Nat → Int32} {post : Int32 → HC → Prop} (hs : SH S) (hl : LN ln) (hk : MK ln N S b n f o) (h14 : n ≤ 14) (hp : p < n) (hq : q < n) (hT : ∀ ch j, ch < 8 → j < n → hI S 72 (8 * j + ch) = T ch j) (h1 : alk f T p q → post 1 S) (h0 : ¬ alk f T p q → post 0 S) : wpX8_areAlike ln S 68 (nI p) (nI q) post := by
  have k0 : ∀ m i, i + m = 8 → post 0 S → LX8_areAlike_5 ln post (m + 1) S 68 (nI p) (nI q) 0 (nI i) := by
    intro m
    induction m with
    | zero =>
      intro i hi hp
      have e : i = 8 := by omega
      subst e
      rw [LX8_areAlike_5]
      dsimp only
      rw [if_pos (by decide), rb_e0]
      exact hp
    | succ m ih =>
      intro i hi hp
      rw [LX8_areAlike_5]
      dsimp only
      unfold BX8_areAlike_37 BX8_areAlike_38
      rw [if_neg (show ¬ (8 : Int32) ≤ nI i from nI_ge (b := 8) (by omega) (by decide)), if_pos rfl, lt_e, nI_1]
      exact ih (i + 1) (by omega) hp
  have key : ∀ m i, i + m = 8 → (∀ ch, ch < i → shV f (T ch) ch p = shV f (T ch) ch q) → LX8_areAlike_5 ln post (m + 1) S 68 (nI p) (nI q) 1 (nI i) := by
    intro m
    induction m with
    | zero =>
      intro i hi ha
      have e : i = 8 := by omega
      subst e
      rw [LX8_areAlike_5]
      dsimp only
      rw [if_pos (by decide), rb_e1]
      exact h1 ha
    | succ m ih =>
      intro i hi ha
      rw [LX8_areAlike_5]
      dsimp only
      unfold BX8_areAlike_37 BX8_areAlike_38
      rw [if_neg (show ¬ (8 : Int32) ≤ nI i from nI_ge (b := 8) (by omega) (by decide)), if_neg (by decide), p_borne hs hl hk h14 (by omega) hp (hT i p (by omega) hp), p_borne hs hl hk h14 (by omega) hq (hT i q (by omega) hq), lt_e, lt_e, nI_1]
      by_cases e : shV f (T i) i p = shV f (T i) i q
      · rw [if_pos e]
        refine ih (i + 1) (by omega) (fun ch u => ?_)
        rcases (show ch < i ∨ ch = i by omega) with v | rfl
        · exact ha ch v
        · exact e
      · rw [if_neg e]
        exact k0 m (i + 1) (by omega) (h0 (fun u => e (u i (by omega))))
  exact ⟨9, key 8 0 (by omega) (fun _ u => absurd u (by omega))⟩
-- 53.ppack.lean.txt
/-! shields: what one shows, packed into a long -/
theorem i64_c {c : Nat} (h : c < 128) : (nI c).toInt64.toBitVec.toNat = c := by
  have e : ∀ c : Fin 128, (nI c.val).toInt64.toBitVec.toNat = c.val := by decide +kernel
  exact e ⟨c, h⟩
theorem pk7 {x : Int64} {a c : Nat} (hx : x.toBitVec.toNat = a) (ha : a < 2 ^ 49) (hc : c < 128) : ((x <<< ((7 : Int32).toInt64 &&& 63)) ||| (nI c).toInt64).toBitVec.toNat = a * 128 + c := by
  have e7 : (((7 : Int32).toInt64 &&& 63).toBitVec.smod 64).toNat = 7 := by decide
  rw [Int64.toBitVec_or, BitVec.toNat_or, i64_c hc, Int64.toBitVec_shiftLeft, BitVec.shiftLeft_eq', e7, BitVec.toNat_shiftLeft, hx, Nat.mod_eq_of_lt (by rw [Nat.shiftLeft_eq]; omega), ← Nat.shiftLeft_add_eq_or_of_lt (by omega), Nat.shiftLeft_eq]
def pkN (v : Nat → Nat) : Nat → Nat
  | 0 => 0
  | i + 1 => pkN v i * 128 + v i
theorem pkN_lt {v : Nat → Nat} (hv : ∀ i, v i < 128) : ∀ i, pkN v i < 128 ^ i := by
  intro i
  induction i with
  | zero => simp [pkN]
  | succ i ih =>
    rw [pkN, Nat.pow_succ]
    have := hv i
    omega
theorem pkN_inj {v w : Nat → Nat} (hv : ∀ i, v i < 128) (hw : ∀ i, w i < 128) : ∀ i, pkN v i = pkN w i → ∀ j, j < i → v j = w j := by
  intro i
  induction i with
  | zero => intro _ j hj; exact absurd hj (by omega)
  | succ i ih =>
    intro h j hj
    rw [pkN, pkN] at h
    have h1 := hv i
    have h2 := hw i
    by_cases e : j = i
    · rw [e]; omega
    · exact ih (by omega) j (by omega)
theorem pkN_eq {v w : Nat → Nat} : ∀ i, (∀ j, j < i → v j = w j) → pkN v i = pkN w i := by
  intro i
  induction i with
  | zero => intro _; rfl
  | succ i ih => intro h; rw [pkN, pkN, h i (by omega), ih (fun j hj => h j (by omega))]
-- 54.palike.lean.txt
/-! step: alike -/
theorem shV_ok {f : Nat → Nat → Int32} {T : Nat → Int32} {ch p : Nat} (h : V64 (T p)) : V64 (shV f T ch p) := by
  unfold shV
  split
  · exact ⟨0, by decide, rfl⟩
  · exact h
/-- what one shows of the charge i, as a number below 128 -/
def shN (f : Nat → Nat → Int32) (T : Nat → Nat → Int32) (p i : Nat) : Nat := ixN (shV f (T i) i p) % 128
theorem shN_e {f : Nat → Nat → Int32} {T : Nat → Nat → Int32} {p i : Nat} (h : V64 (T i p)) : shV f (T i) i p = nI (shN f T p i) ∧ shN f T p i < 128 := by
  obtain ⟨c, hc, e⟩ := shV_ok (f := f) (ch := i) h
  unfold shN
  rw [e, ixN_e (by omega), Nat.mod_eq_of_lt (by omega)]
  exact ⟨rfl, by omega⟩
theorem p_packed {ln : Nat → Nat} {N : Nat} {S : HC} {b n p : Nat} {f : Nat → Nat → Int32} {o : Option ((Nat → Int32) × Nat)} {T : Nat → Nat → Int32} {post : Int64 → HC → Prop} (hs : SH S) (hl : LN ln) (hb : LB b) (hk : LK ln N S b n f o) (h14 : n ≤ 14) (hp : p < n) (hT : ∀ ch j, ch < 8 → j < n → hI S 26 (14 * ch + j) = T ch j) (hV : ∀ ch j, V64 (T ch j)) (h : ∀ x : Int64, x.toBitVec.toNat = pkN (shN f T p) 8 → post x S) : wpX4_packed ln S 25 (nI p) post := by
  have key : ∀ m i (x : Int64), i + m = 8 → x.toBitVec.toNat = pkN (shN f T p) i → LX4_packed_5 ln post (m + 1) S 25 (nI p) x (nI i) := by
    intro m
    induction m with
    | zero =>
      intro i x hi hx
      have e : i = 8 := by omega
      subst e
      rw [LX4_packed_5]
      dsimp only
      rw [if_pos (by decide)]
      exact h x hx
    | succ m ih =>
      intro i x hi hx
      rw [LX4_packed_5]
      dsimp only
      rw [if_neg (show ¬ (8 : Int32) ≤ nI i from nI_ge (b := 8) (by omega) (by decide)), lt_e, p_shown (T := T i) hs hl hb hk h14 (by omega) hp (hT i p (by omega) hp), lt_e, lt_e, lt_e, nI_1, (shN_e (hV i p)).1]
      refine ih (i + 1) _ (by omega) ?_
      rw [pkN]
      have lt := pkN_lt (v := shN f T p) (fun i => (shN_e (hV i p)).2) i
      refine pk7 hx ?_ (shN_e (hV i p)).2
      have : (128 : Nat) ^ i ≤ 128 ^ 7 := Nat.pow_le_pow_right (by decide) (by omega)
      have e7 : (128 : Nat) ^ 7 = 2 ^ 49 := by decide
      omega
  exact ⟨9, key 8 0 0 (by omega) rfl⟩
theorem alk_pk {f : Nat → Nat → Int32} {T : Nat → Nat → Int32} {p q : Nat} {x y : Int64} (hV : ∀ ch j, V64 (T ch j)) (hx : x.toBitVec.toNat = pkN (shN f T p) 8) (hy : y.toBitVec.toNat = pkN (shN f T q) 8) : x = y ↔ alk f T p q := by
  constructor
  · intro e ch hc
    rw [e, hy] at hx
    have := pkN_inj (fun i => (shN_e (hV i q)).2) (fun i => (shN_e (hV i p)).2) 8 hx ch hc
    rw [(shN_e (hV ch p)).1, (shN_e (hV ch q)).1, this]
  · intro e
    have : pkN (shN f T p) 8 = pkN (shN f T q) 8 := pkN_eq 8 (fun j hj => by unfold shN; rw [e j hj])
    exact Int64.toBitVec_inj.mp (BitVec.eq_of_toNat_eq (by rw [hx, hy, this]))
-- 55.palike2.lean.txt
/-! step: alike -/
theorem lg_0 {x y : Int64} : lg_cmp x y = 0 ↔ x = y := by
  unfold lg_cmp
  by_cases e : x = y
  · subst e
    rw [if_neg (fun u => Int64.lt_irrefl u), if_pos rfl]
    exact ⟨fun _ => rfl, fun _ => rfl⟩
  · by_cases g : x > y
    · rw [if_pos g]
      exact ⟨fun u => absurd u (by decide), fun u => absurd u e⟩
    · rw [if_neg g, if_neg e]
      exact ⟨fun u => absurd u (by decide), fun u => absurd u e⟩
theorem s_alike {N : Nat} {ln : Nat → Nat} {S : HC} (h : PI N ln S) (a1 a2 : Int32) : wpX7_alike ln S 0 a1 a2 fun v S => wpX8_alike ln S 68 a1 a2 fun w S => OK N ln v w S := by
  obtain ⟨⟨hs, hl, -, -⟩, ⟨⟨n, hn⟩, m, m1, m2, m3, m4⟩, -⟩ := id h
  have h14 := hn.1
  have hv := hn.2.2.2.2.1
  unfold wpX7_alike BX7_alike_27 wpX4_workOutAll
  rw [sh0_0 hs, dn_e, p_has]
  rcases i_in a1 n (by omega) with ⟨p, hp, rfl⟩ | hx
  · rw [hasT hn.2.1 h14 hp, if_neg (by decide), sh0_0 hs, dn_e, p_has]
    rcases i_in a2 n (by omega) with ⟨q, hq, rfl⟩ | hx
    · rw [hasT hn.2.1 h14 hq, if_neg (by decide)]
      by_cases e : nI p = nI q
      · rw [if_pos e]
        unfold wpX8_alike BX8_alike_21
        dsimp only
        rw [p_isOne hs hl, oneT hn.2.2.1 h14 hp, if_neg (by decide), p_isOne hs hl, oneT hn.2.2.1 h14 hq, if_neg (by decide), if_pos e]
        exact ⟨rfl, h⟩
      rw [if_neg e, sh0_4 hs, dn_e, sh0_0 hs, dn_e]
      refine p_lookAt (n := n) (m := m) (f := mf S 69) hs hl (Or.inl rfl) hn.2.1 hn.2.2.2.1 h14 hn.2.2.1 (fun _ _ _ _ => rfl) m1 m2 m3 m4 (fun S1 o k1 k2 e1 e2 => ?_)
      have s1 : Sm S S1 := ⟨fun r k u => e1 r k (fun v => u (by unfold sc; omega)), fun r k u _ _ => e2 r k u⟩
      have hs1 := hs.sm s1
      refine p_allOut hs1 hl (Or.inl rfl) k1 hv h14 (fun S2 w2 => ?_)
      have s2 : Sm S1 S2 := ⟨fun r k u => w2.1 r k (fun v => u (by unfold sc; omega)) (fun v => u (by unfold sc; omega)), fun r k _ _ _ => w2.2.2 r k⟩
      have hs2 := hs1.sm s2
      have k3 := k1.ag (Or.inl rfl) w2.1 w2.2.2
      have k2' := k2.wo w2.1 w2.2.2
      have hV : ∀ ch j, V64 ((fun ch => ptT n (mf S 69) o (nI ch) n) ch j) := fun ch j => ptT_ok n j
      rw [sh0_4 hs2, dn_e]
      refine p_packed hs2 hl (Or.inl rfl) k3 h14 hp w2.2.1 hV (fun x hx => ?_)
      rw [sh0_4 hs2, dn_e]
      refine p_packed hs2 hl (Or.inl rfl) k3 h14 hq w2.2.1 hV (fun y hy => ?_)
      rw [lt_e]
      have iff := lg_0.trans (alk_pk hV hx hy)
      have mm : ∀ v : Int32, (alk (mf S 69) (fun ch => ptT n (mf S 69) o (nI ch) n) p q → v = 1) → (¬ alk (mf S 69) (fun ch => ptT n (mf S 69) o (nI ch) n) p q → v = 0) → wpX8_alike ln S2 68 (nI p) (nI q) fun w S => OK N ln v w S := fun v v1 v0 => by
        unfold wpX8_alike
        rw [p_isOne hs2 hl, oneT k2'.1 h14 hp, if_neg (by decide), p_isOne hs2 hl, oneT k2'.1 h14 hq, if_neg (by decide), if_neg e]
        refine p_worksAll hs2 hl k2' hv h14 (fun S3 w3 => ?_)
        refine p_areAlike (w3.1.sh hs2) hl (k2'.ag w3.1) h14 hp hq w3.2 (fun u => ?_) (fun u => ?_)
        · rw [if_neg (by decide)]; exact ⟨v1 u, h.sm ((s1.tr s2).tr w3.1.sm)⟩
        · rw [if_pos rfl]; exact ⟨v0 u, h.sm ((s1.tr s2).tr w3.1.sm)⟩
      by_cases z : lg_cmp x y = 0
      · rw [if_pos z]; exact mm 1 (fun _ => rfl) (fun u => absurd (iff.mp z) u)
      · rw [if_neg z]; exact mm 0 (fun u => absurd (iff.mpr u) z) (fun _ => rfl)
    · rw [hasF hn.2.1 hx, if_pos rfl]
      unfold wpX8_alike BX8_alike_21
      dsimp only
      rw [p_isOne hs hl, oneT hn.2.2.1 h14 hp, if_neg (by decide), p_isOne hs hl, oneF hn.2.2.1 h14 hx, if_pos rfl]
      exact ⟨rfl, h⟩
  · rw [hasF hn.2.1 hx, if_pos rfl]
    unfold wpX8_alike BX8_alike_21
    dsimp only
    rw [p_isOne hs hl, oneF hn.2.2.1 h14 hx, if_pos rfl]
    exact ⟨rfl, h⟩
-- 56.pland.lean.txt
/-! step: land -/
def clJ (f : Nat → Nat → Int32) (T : Nat → Nat → Int32) (i : Nat) : Nat → Nat
  | 0 => 0
  | j + 1 => clJ f T i j + (if alk f T j i then 1 else 0)
def clI (f : Nat → Nat → Int32) (T : Nat → Nat → Int32) : Nat → Nat
  | 0 => 0
  | i + 1 => clI f T i + clJ f T i i
theorem p_clashes {ln : Nat → Nat} {N : Nat} {S : HC} {b n : Nat} {f : Nat → Nat → Int32} {o : Option ((Nat → Int32) × Nat)} {T : Nat → Nat → Int32} {post : Int32 → HC → Prop} (hs : SH S) (hl : LN ln) (hb : LB b) (hk : LK ln N S b n f o) (h14 : n ≤ 14) (hT : ∀ ch j, ch < 8 → j < n → hI S 26 (14 * ch + j) = T ch j) (hV : ∀ ch j, V64 (T ch j)) (h : ∀ S', (∀ r k, hI S' r k = hI S r k) → (∀ r k, hR S' r k = hR S r k) → post (nI (clI f T n)) S') : wpX4_clashes ln S 25 post := by
  have key : ∀ m i S', i + m = n → (∀ r k, hI S' r k = hI S r k) → (∀ r k, hR S' r k = hR S r k) → (∀ j, j < i → (hJ S' 27 j).toBitVec.toNat = pkN (shN f T j) 8) → LX4_clashes_4 ln post (m + 1) S' 25 (nI (clI f T i)) (nI i) := by
    intro m
    induction m with
    | zero =>
      intro i S' hi g1 g2 g3
      rw [LX4_clashes_4]
      dsimp only
      rw [g2, hk.1, dn_e, lt_e, g1, hk.2.2.1, if_pos (nI_le (by omega) (by omega)), show i = n by omega]
      exact h S' g1 g2
    | succ m ih =>
      intro i S' hi g1 g2 g3
      have hs' : SH S' := hs.of (fun _ _ => g2 _ _)
      have k' : LK ln N S' b n f o := hk.ag hb (fun q k _ _ => g1 q k) g2
      rw [LX4_clashes_4]
      dsimp only
      rw [k'.1, dn_e, lt_e, k'.2.2.1, if_neg (nI_ge (by omega) (by omega)), sh25_1 hs', dn_e]
      refine p_packed hs' hl hb k' h14 (by omega) (fun ch j u1 u2 => by rw [g1]; exact hT ch j u1 u2) hV (fun x hx => ?_)
      rw [ln27 hl, as_e (by omega) (by decide)]
      have g3' : ∀ j, j ≤ i → (hJ (sJ S' 27 i x) 27 j).toBitVec.toNat = pkN (shN f T j) 8 := fun j hj => by
        rw [hJ_sJ]
        by_cases e : j = i
        · subst e; rw [if_pos ⟨rfl, rfl⟩]; exact hx
        · rw [if_neg (fun u => e u.2)]; exact g3 j (by omega)
      have inner : ∀ m2 j, j + m2 = i → LX4_clashes_28 ln post (LX4_clashes_4 ln post (m + 1)) (m2 + 1) (sJ S' 27 i x) 25 (nI (clI f T i + clJ f T i j)) (nI i) (nI j) := by
        intro m2
        induction m2 with
        | zero =>
          intro j hj
          have ej : j = i := by omega
          subst ej
          rw [LX4_clashes_28]
          dsimp only
          rw [if_pos (nI_le (by omega) (by omega)), lt_e, nI_1]
          have k := ih (j + 1) (sJ S' 27 j x) (by omega) g1 g2 (fun j2 hj2 => g3' j2 (by omega))
          rw [clI] at k
          exact k
        | succ m2 ih2 =>
          intro j hj
          have k := ih2 (j + 1) (by omega)
          rw [clJ] at k
          rw [LX4_clashes_28]
          dsimp only
          unfold BX4_clashes_52
          rw [if_neg (nI_ge (by omega) (by omega)), hR_sJ, sh25_1 hs', dn_e, ln27 hl, al_e (by omega) (by decide), dn_e, ln27 hl, al_e (by omega) (by decide), lt_e, lt_e, lt_e, nI_1, nI_1]
          have iff := (lg_0 (x := hJ (sJ S' 27 i x) 27 j) (y := hJ (sJ S' 27 i x) 27 i)).trans (alk_pk hV (g3' j (by omega)) (g3' i (Nat.le_refl _)))
          by_cases z : lg_cmp (hJ (sJ S' 27 i x) 27 j) (hJ (sJ S' 27 i x) 27 i) = 0
          · rw [if_pos (iff.mp z)] at k
            rw [if_pos z]
            try rw [lt_e]
            rw [show clI f T i + clJ f T i j + 1 = clI f T i + (clJ f T i j + 1) by omega]
            exact k
          · rw [if_neg (fun u => z (iff.mpr u)), Nat.add_zero] at k
            rw [if_neg z]
            exact k
      exact ⟨i + 1, inner i 0 (by omega)⟩
  exact ⟨n + 1, key n 0 S (by omega) (fun _ _ => rfl) (fun _ _ => rfl) (fun _ u => absurd u (by omega))⟩
-- 57.pland2.lean.txt
/-! step: land, on -/
theorem alk_sy {f : Nat → Nat → Int32} {T : Nat → Nat → Int32} {p q : Nat} (h : alk f T p q) : alk f T q p := fun ch hc => (h ch hc).symm
theorem p_mclashes {ln : Nat → Nat} {N : Nat} {S : HC} {b n : Nat} {f : Nat → Nat → Int32} {o : Option ((Nat → Int32) × Nat)} {post : Int32 → HC → Prop} (hs : SH S) (hl : LN ln) (hk : MK ln N S b n f o) (hv : VP n f) (h14 : n ≤ 14) (h : ∀ S', MC S S' → post (nI (clI f (fun ch => ptT n f o (nI ch) n) n)) S') : wpX8_clashes ln S 68 post := by
  unfold wpX8_clashes
  refine p_worksAll hs hl hk hv h14 (fun S1 w1 => ?_)
  have hs1 := w1.1.sh hs
  have k1 := hk.ag w1.1
  generalize hT : (fun ch => ptT n f o (nI ch) n) = T at *
  have key : ∀ m i, i + m = n → LX8_clashes_8 ln post (m + 1) S1 68 (nI (clI f T i)) (nI i) := by
    intro m
    induction m with
    | zero =>
      intro i hi
      rw [LX8_clashes_8]
      dsimp only
      rw [sh68_0 hs1, dn_e, ln69 hl, al_l1 (by decide) (by decide), k1.1, if_pos (nI_le (by omega) (by omega)), show i = n by omega]
      exact h S1 w1.1
    | succ m ih =>
      intro i hi
      rw [LX8_clashes_8]
      dsimp only
      rw [sh68_0 hs1, dn_e, ln69 hl, al_l1 (by decide) (by decide), k1.1, if_neg (nI_ge (by omega) (by omega))]
      have inner : ∀ m2 j, j + m2 = i → LX8_clashes_20 ln post (LX8_clashes_8 ln post (m + 1)) (m2 + 1) S1 68 (nI (clI f T i + clJ f T i j)) (nI i) (nI j) := by
        intro m2
        induction m2 with
        | zero =>
          intro j hj
          have ej : j = i := by omega
          subst ej
          rw [LX8_clashes_20]
          dsimp only
          rw [if_pos (nI_le (by omega) (by omega)), lt_e, nI_1]
          have k := ih (j + 1) (by omega)
          rw [clI] at k
          exact k
        | succ m2 ih2 =>
          intro j hj
          have k := ih2 (j + 1) (by omega)
          rw [clJ] at k
          rw [LX8_clashes_20]
          dsimp only
          unfold BX8_clashes_40
          rw [if_neg (nI_ge (by omega) (by omega))]
          refine p_areAlike hs1 hl k1 h14 (by omega) (by omega) w1.2 (fun u => ?_) (fun u => ?_)
          · rw [if_pos (alk_sy u)] at k
            rw [if_neg (by decide), lt_e, lt_e, nI_1, nI_1, show clI f T i + clJ f T i j + 1 = clI f T i + (clJ f T i j + 1) by omega]
            exact k
          · rw [if_neg (fun v => u (alk_sy v)), Nat.add_zero] at k
            rw [if_pos rfl, lt_e, lt_e, nI_1, show nI (clI f T i + clJ f T i j) + 0 = nI (clI f T i + clJ f T i j + 0) from nI_add _ 0, Nat.add_zero]
            exact k
      exact ⟨i + 1, inner i 0 (by omega)⟩
  exact ⟨n + 1, key n 0 (by omega)⟩
theorem s_land {N : Nat} {ln : Nat → Nat} {S : HC} (h : PI N ln S) (a1 : Int32) : wpX7_land ln S 0 a1 fun v S => wpX8_land ln S 68 a1 fun w S => OK N ln v w S := by
  obtain ⟨⟨hs, hl, -, -⟩, ⟨⟨n, hn⟩, m, m1, m2, m3, m4⟩, -⟩ := id h
  have h14 := hn.1
  have hv := hn.2.2.2.2.1
  unfold wpX7_land wpX4_workOutAll
  by_cases c0 : a1 = 0
  · subst c0
    rw [if_pos rfl, sh0_4 hs, dn_e, sh0_0 hs, dn_e]
    refine p_lookAt (n := n) (m := m) (f := mf S 69) hs hl (Or.inl rfl) hn.2.1 hn.2.2.2.1 h14 hn.2.2.1 (fun _ _ _ _ => rfl) m1 m2 m3 m4 (fun S1 o k1 k2 e1 e2 => ?_)
    have s1 : Sm S S1 := ⟨fun r k u => e1 r k (fun v => u (by unfold sc; omega)), fun r k u _ _ => e2 r k u⟩
    have hs1 := hs.sm s1
    refine p_allOut hs1 hl (Or.inl rfl) k1 hv h14 (fun S2 w2 => ?_)
    have s2 : Sm S1 S2 := ⟨fun r k u => w2.1 r k (fun v => u (by unfold sc; omega)) (fun v => u (by unfold sc; omega)), fun r k _ _ _ => w2.2.2 r k⟩
    have hs2 := hs1.sm s2
    have k3 := k1.ag (Or.inl rfl) w2.1 w2.2.2
    have k2' := k2.wo w2.1 w2.2.2
    rw [sh0_4 hs2, dn_e]
    refine p_clashes hs2 hl (Or.inl rfl) k3 h14 w2.2.1 (fun ch j => ptT_ok n j) (fun S3 g1 g2 => ?_)
    have s3 : Sm S2 S3 := ⟨fun r k _ => g1 r k, fun r k _ _ _ => g2 r k⟩
    unfold wpX8_land
    dsimp only
    rw [p_in, bI_t (by decide), if_neg (by decide), if_neg (by decide), if_pos rfl]
    exact p_mclashes (hs2.sm s3) hl (k2'.wo (fun q k _ _ => g1 q k) g2) hv h14 (fun S4 c4 => ⟨rfl, h.sm (((s1.tr s2).tr s3).tr c4.sm)⟩)
  rw [if_neg c0]
  by_cases c1 : a1 = 1
  · subst c1
    rw [if_pos rfl, sh0_0 hs, dn_e]
    refine p_howMany (g := mf S 69 3) hs hl (Or.inl rfl) hn.2.1 h14 (fun j hj => hn.2.2.2.1 3 (by decide) j hj) ?_
    unfold wpX8_land
    dsimp only
    rw [p_in, bI_t (by decide), if_neg (by decide), if_neg (by decide), if_neg (by decide), lt_e, show (1 : Int32) - 1 = 0 by decide]
    exact p_manyOf hs hl hn.2.2.1 h14 (fun _ _ => rfl) ⟨rfl, h⟩
  rw [if_neg c1]
  by_cases c2 : a1 = 2
  · subst c2
    rw [if_pos rfl, sh0_0 hs, dn_e]
    refine p_howMany (g := mf S 69 3) hs hl (Or.inl rfl) hn.2.1 h14 (fun j hj => hn.2.2.2.1 3 (by decide) j hj) ?_
    unfold wpX8_land
    dsimp only
    rw [p_in, bI_t (by decide), if_neg (by decide), if_neg (by decide), if_neg (by decide), lt_e, show (2 : Int32) - 1 = 1 by decide]
    exact p_manyOf hs hl hn.2.2.1 h14 (fun _ _ => rfl) ⟨rfl, h⟩
  rw [if_neg c2]
  by_cases c3 : a1 = 3
  · subst c3
    rw [if_pos rfl, sh0_0 hs, dn_e]
    refine p_heiresses hs hl (Or.inl rfl) hn.2.1 hn.2.2.2.1 h14 ?_
    unfold wpX8_land
    dsimp only
    rw [p_in, bI_t (by decide), if_neg (by decide), if_pos (by decide)]
    exact p_mher hs hl hn.2.2.1 (fun _ _ _ _ => rfl) hv h14 ⟨rfl, h⟩
  rw [if_neg c3]
  unfold wpX8_land
  dsimp only
  rw [p_in, bI_f (fun q => by
    obtain ⟨q1, q2⟩ := q
    simp only [i_le, i_eq] at q1 q2 c0 c1 c2 c3
    have : (0 : Int32).toInt = 0 := rfl
    have : (1 : Int32).toInt = 1 := rfl
    have : (2 : Int32).toInt = 2 := rfl
    have : (3 : Int32).toInt = 3 := rfl
    omega), if_pos rfl]
  exact ⟨rfl, h⟩
-- 58.pfrom.lean.txt
/-! step: from -/
def bt (x : Int32) : Int32 := if 0 ≤ x then (1 : Int32) <<< (x &&& 31) else 0
def frF (f : Nat → Nat → Int32) (ch : Int32) : Nat → Int32 → Int32 → Int32
  | 0, _, best => best
  | i + 1, mask, best => if (mask >>> (nI i &&& 31)) &&& 1 = 1 then frF f ch i (mask ||| bt (f 1 i) ||| bt (f 2 i)) (if f 1 i = -1 ∧ f 4 i = ch then nI i else best) else frF f ch i mask best
def tl0 (x : Int32) : Int32 := if 0 ≤ x then x else -1000000005
theorem p_mfrom {ln : Nat → Nat} {S : HC} {n : Nat} {f : Nat → Nat → Int32} {ch : Int32} {post : Int32 → HC → Prop} (hs : SH S) (hl : LN ln) (hf : AG n (mf S 69) f) (hv : VP n f) (h14 : n ≤ 14) : ∀ i mask best, i ≤ n → post (tl0 (frF f ch i mask best)) S → LX8_from_28 ln post (i + 1) S 68 ch mask best (nI i - 1) := by
  intro i
  induction i with
  | zero =>
    intro mask best hi hp
    rw [LX8_from_28]
    dsimp only
    rw [if_pos z1n, p_told0]
    rw [frF] at hp
    exact hp
  | succ i ih =>
    intro mask best hi hp
    rw [frF] at hp
    rw [LX8_from_28]
    dsimp only
    unfold BX8_from_67 BX8_from_93 BX8_from_121 BX8_from_123 BX8_from_125
    rw [sub1, if_neg (nI_pos (by omega))]
    simp only [lt_e, p_of1 hs hl (show i < 200 by omega), p_of2 hs hl (show i < 200 by omega), p_of4 hs hl (show i < 200 by omega), hf 1 (by decide) i (by omega), hf 2 (by decide) i (by omega), hf 4 (by decide) i (by omega), addm1]
    by_cases u : (mask >>> (nI i &&& 31)) &&& 1 = 1
    · rw [if_pos u] at hp ⊢
      rcases hv.fat (show i < n by omega) with e | ⟨p, hp1, e⟩
      · have b1 : bt (f 1 i) = 0 := by rw [e]; decide
        rw [b1] at hp
        rw [e, if_neg (by decide)]
        simp only [e, if_neg (show ¬ (0 : Int32) ≤ -1 by decide)]
        by_cases g : 0 ≤ f 2 i
        · rw [show bt (f 2 i) = (1 : Int32) <<< (f 2 i &&& 31) from if_pos g] at hp
          rw [if_pos g]
          by_cases w : f 4 i = ch
          · rw [if_pos (show f 1 i = -1 ∧ f 4 i = ch from ⟨e, w⟩)] at hp
            rw [if_pos w]; exact ih _ _ (by omega) hp
          · rw [if_neg (show ¬ (f 1 i = -1 ∧ f 4 i = ch) from fun v => w v.2)] at hp
            rw [if_neg w]; exact ih _ _ (by omega) hp
        · rw [show bt (f 2 i) = 0 from if_neg g] at hp
          rw [if_neg g]
          by_cases w : f 4 i = ch
          · rw [if_pos (show f 1 i = -1 ∧ f 4 i = ch from ⟨e, w⟩)] at hp
            rw [if_pos w]; exact ih _ _ (by omega) hp
          · rw [if_neg (show ¬ (f 1 i = -1 ∧ f 4 i = ch) from fun v => w v.2)] at hp
            rw [if_neg w]; exact ih _ _ (by omega) hp
      · have g1 : 0 ≤ f 1 i := by rw [e]; exact nI_pos' (by omega)
        have ne : ¬ f 1 i = -1 := by rw [e]; exact m1_ne (by omega)
        rw [show bt (f 1 i) = (1 : Int32) <<< (f 1 i &&& 31) from if_pos g1, if_neg (show ¬ (f 1 i = -1 ∧ f 4 i = ch) from fun v => ne v.1)] at hp
        simp only [if_pos g1]
        by_cases g : 0 ≤ f 2 i
        · rw [show bt (f 2 i) = (1 : Int32) <<< (f 2 i &&& 31) from if_pos g] at hp
          rw [if_pos g]; exact ih _ _ (by omega) hp
        · rw [show bt (f 2 i) = 0 from if_neg g] at hp
          rw [if_neg g]; exact ih _ _ (by omega) hp
    · rw [if_neg u] at hp ⊢
      exact ih _ _ (by omega) hp
-- 59.pfrom2.lean.txt
/-! step: from, on -/
theorem p_bitOf {ln : Nat → Nat} {S : HC} {x : Int32} {post : Int32 → HC → Prop} (h : x = -1 ∨ 0 ≤ x) : wpX0_bitOf ln S x post = post (bt x) S := by
  unfold wpX0_bitOf bt
  rcases h with rfl | h
  · rw [if_pos rfl, if_neg (by decide)]
  · rw [if_neg (fun u => by rw [u] at h; exact absurd h (by decide)), lt_e, if_pos h]
theorem frF_ok {f : Nat → Nat → Int32} {ch : Int32} : ∀ i mask best, i < 100 → (best = -1 ∨ 0 ≤ best) → (frF f ch i mask best = -1 ∨ 0 ≤ frF f ch i mask best) := by
  intro i
  induction i with
  | zero => intro mask best _ h; rw [frF]; exact h
  | succ i ih =>
    intro mask best hi h
    rw [frF]
    by_cases u : (mask >>> (nI i &&& 31)) &&& 1 = 1
    · rw [if_pos u]
      refine ih _ _ (by omega) ?_
      by_cases w : f 1 i = -1 ∧ f 4 i = ch
      · rw [if_pos w]; exact Or.inr (nI_pos' (by omega))
      · rw [if_neg w]; exact h
    · rw [if_neg u]; exact ih _ _ (by omega) h
theorem p_oldest {ln : Nat → Nat} {S : HC} {b n : Nat} {f : Nat → Nat → Int32} {ch : Int32} {post : Int32 → HC → Prop} (hs : SH S) (hl : LN ln) (hb : LB b) (hn : hI S b 6 = nI n) (hf : AG n (xf S b) f) (hv : VP n f) (h14 : n ≤ 14) : ∀ i mask best, i ≤ n → post (frF f ch i mask best) S → LX0_oldestFounder_10 ln post (i + 1) S b ch mask best (nI i - 1) := by
  intro i
  induction i with
  | zero =>
    intro mask best hi hp
    rw [LX0_oldestFounder_10]
    dsimp only
    rw [if_pos z1n]
    rw [frF] at hp
    exact hp
  | succ i ih =>
    intro mask best hi hp
    have ef : ∀ k, k < 6 → hI S (b + 1 + k) i = f k i := fun k q => hf k q i (by omega)
    have o1 : f 1 i = -1 ∨ 0 ≤ f 1 i := by
      rcases hv.fat (show i < n by omega) with e | ⟨p, _, e⟩
      · exact Or.inl e
      · exact Or.inr (by rw [e]; exact nI_pos' (by omega))
    have o2 : f 2 i = -1 ∨ 0 ≤ f 2 i := by
      rcases hv.mot (show i < n by omega) with e | ⟨p, _, e⟩
      · exact Or.inl e
      · exact Or.inr (by rw [e]; exact nI_pos' (by omega))
    have b60 : ∀ bs, post (frF f ch i (mask ||| bt (f 1 i) ||| bt (f 2 i)) bs) S → BX0_oldestFounder_60 ln post (LX0_oldestFounder_10 ln post (i + 1)) S b ch mask bs (nI i) := fun bs hp => by
      unfold BX0_oldestFounder_60 BX0_oldestFounder_84
      rw [lb_r hs hb (i := 1) (by decide), dn_e, lb_n hl hb (i := 1) (by decide), al_e (by omega) (by decide), ef 1 (by decide), p_bitOf o1, lb_r hs hb (i := 2) (by decide), dn_e, lb_n hl hb (i := 2) (by decide), al_e (by omega) (by decide), ef 2 (by decide), p_bitOf o2, lt_e, lt_e, lt_e, addm1, ← Int32.or_assoc]
      exact ih _ _ (by omega) hp
    rw [frF] at hp
    rw [LX0_oldestFounder_10]
    dsimp only
    rw [sub1, if_neg (nI_pos (by omega)), p_has, hasT hn h14 (by omega), if_neg (by decide), lt_e, lt_e]
    by_cases u : (mask >>> (nI i &&& 31)) &&& 1 = 1
    · rw [if_pos u] at hp ⊢
      rw [lb_r hs hb (i := 1) (by decide), dn_e, lb_n hl hb (i := 1) (by decide), al_e (by omega) (by decide), ef 1 (by decide)]
      by_cases e : f 1 i = -1
      · rw [if_pos e, lb_r hs hb (i := 4) (by decide), dn_e, lb_n hl hb (i := 4) (by decide), al_e (by omega) (by decide), ef 4 (by decide)]
        by_cases w : f 4 i = ch
        · rw [if_pos (show f 1 i = -1 ∧ f 4 i = ch from ⟨e, w⟩)] at hp
          rw [if_pos w]; exact b60 _ hp
        · rw [if_neg (show ¬ (f 1 i = -1 ∧ f 4 i = ch) from fun v => w v.2)] at hp
          rw [if_neg w]; exact b60 _ hp
      · rw [if_neg (show ¬ (f 1 i = -1 ∧ f 4 i = ch) from fun v => e v.1)] at hp
        rw [if_neg e]; exact b60 _ hp
    · rw [if_neg u] at hp ⊢
      unfold BX0_oldestFounder_84
      rw [lt_e, addm1]
      exact ih _ _ (by omega) hp
theorem s_from {N : Nat} {ln : Nat → Nat} {S : HC} (h : PI N ln S) (a1 a2 : Int32) : wpX7_from ln S 0 a1 a2 fun v S => wpX8_from ln S 68 a1 a2 fun w S => OK N ln v w S := by
  obtain ⟨⟨hs, hl, -, -⟩, ⟨⟨n, hn⟩, -⟩, -⟩ := id h
  have h14 := hn.1
  have hv := hn.2.2.2.2.1
  unfold wpX7_from BX7_from_18 wpX0_oldestFounder
  rw [sh0_0 hs, dn_e, p_has]
  rcases i_in a1 n (by omega) with ⟨p, hp, rfl⟩ | hx
  · rw [hasT hn.2.1 h14 hp, if_neg (by decide), p_isCharge]
    by_cases c : 0 ≤ a2 ∧ a2 < 8
    · rw [bI_t c, if_neg (by decide), sh0_0 hs, dn_e, lt_e]
      refine ⟨p + 2, ?_⟩
      have k1 := fun post => p_oldest (ch := a2) (post := post) hs hl (Or.inl rfl) hn.2.1 hn.2.2.2.1 hv h14 (p + 1) ((1 : Int32) <<< (nI p &&& 31)) (-1) (by omega)
      have k2 := fun post => p_mfrom (ch := a2) (post := post) hs hl (fun _ _ _ _ => rfl) hv h14 (p + 1) ((1 : Int32) <<< (nI p &&& 31)) (-1) (by omega)
      have ok := frF_ok (f := mf S 69) (ch := a2) (p + 1) ((1 : Int32) <<< (nI p &&& 31)) (-1) (by omega) (Or.inl rfl)
      rw [sub1] at k1 k2
      generalize frF (mf S 69) a2 (p + 1) ((1 : Int32) <<< (nI p &&& 31)) (-1) = v0 at k1 k2 ok
      refine k1 _ ?_
      have mm : ∀ v, v = tl0 v0 → wpX8_from ln S 68 (nI p) a2 fun w S => OK N ln v w S := fun v ev => by
        unfold wpX8_from
        rw [p_isOne hs hl, oneT hn.2.2.1 h14 hp, if_neg (by decide), p_mCharge, chE, bI_t c, if_neg (by decide), lt_e]
        exact ⟨p + 2, k2 _ ⟨ev, h⟩⟩
      by_cases e : v0 = -1
      · rw [if_pos e]; exact mm _ (by unfold tl0; rw [if_neg (by rw [e]; decide)])
      · rw [if_neg e]
        exact mm _ (by
          unfold tl0
          rcases ok with q | q
          · exact absurd q e
          · rw [if_pos q])
    · rw [bI_f c, if_pos rfl]
      unfold wpX8_from BX8_from_15
      dsimp only
      rw [p_isOne hs hl, oneT hn.2.2.1 h14 hp, if_neg (by decide), p_mCharge, chE, bI_f c, if_pos rfl]
      exact ⟨rfl, h⟩
  · rw [hasF hn.2.1 hx, if_pos rfl]
    unfold wpX8_from BX8_from_15
    dsimp only
    rw [p_isOne hs hl, oneF hn.2.2.1 h14 hx, if_pos rfl]
    exact ⟨rfl, h⟩
-- 60.pmatch.lean.txt
/-! step: match -/
def jv (n : Nat) (f : Nat → Nat → Int32) (o : Option ((Nat → Int32) × Nat)) (ch : Int32) (T : Nat → Int32) (a b : Nat) : Int32 := JF o (T a) (if herP n f b then T b else T a) ch
def mV (n : Nat) (f : Nat → Nat → Int32) (o : Option ((Nat → Int32) × Nat)) (ch : Int32) (T : Nat → Int32) (p j : Nat) : Int32 := if f 3 p = 0 then jv n f o ch T p j else jv n f o ch T j p
theorem mV_ok {n : Nat} {f : Nat → Nat → Int32} {o : Option ((Nat → Int32) × Nat)} {ch : Int32} {T : Nat → Int32} {p j : Nat} : V64 (mV n f o ch T p j) := by
  unfold mV jv
  split
  · exact JF_ok _ _ _ _
  · exact JF_ok _ _ _ _
def mtF (n : Nat) (f : Nat → Nat → Int32) (o : Option ((Nat → Int32) × Nat)) (ch : Int32) (T : Nat → Int32) (p : Nat) : Nat → Int32 × Int32
  | 0 => (-1, -1)
  | j + 1 => if f 3 j = f 3 p then mtF n f o ch T p j else if mV n f o ch T p j ≤ (mtF n f o ch T p j).2 then mtF n f o ch T p j else (nI j, mV n f o ch T p j)
theorem mtF_ok {n : Nat} {f : Nat → Nat → Int32} {o : Option ((Nat → Int32) × Nat)} {ch : Int32} {T : Nat → Int32} {p : Nat} : ∀ j, j < 100 → mtF n f o ch T p j = (-1, -1) ∨ ∃ t v, t < 100 ∧ mtF n f o ch T p j = (nI t, v) ∧ V64 v := by
  intro j
  induction j with
  | zero => intro _; exact Or.inl rfl
  | succ j ih =>
    intro hj
    rw [mtF]
    by_cases e1 : f 3 j = f 3 p
    · rw [if_pos e1]; exact ih (by omega)
    rw [if_neg e1]
    by_cases e2 : mV n f o ch T p j ≤ (mtF n f o ch T p j).2
    · rw [if_pos e2]; exact ih (by omega)
    · rw [if_neg e2]; exact Or.inr ⟨j, _, by omega, rfl, mV_ok⟩
theorem jv_e {n : Nat} {f : Nat → Nat → Int32} {o : Option ((Nat → Int32) × Nat)} {ch : Int32} {T : Nat → Int32} {a b : Nat} (hb : b < 2 ^ 31) : JF o (T a) (if ¬ nI b = -1 ∧ herP n f (ixN (nI b)) then T (ixN (nI b)) else T a) ch = jv n f o ch T a b := by
  unfold jv
  rw [ixN_e hb]
  by_cases e : herP n f b
  · rw [if_pos ⟨m1_ne hb, e⟩, if_pos e]
  · rw [if_neg (fun u => e u.2), if_neg e]
theorem p_xmatch {ln : Nat → Nat} {N : Nat} {S : HC} {n ch p : Nat} {f : Nat → Nat → Int32} {o : Option ((Nat → Int32) × Nat)} {T : Nat → Int32} {x3 : Int32} {post : Int32 → HC → Prop} (hs : SH S) (hl : LN ln) (hk : LK ln N S 1 n f o) (h14 : n ≤ 14) (hc : ch < 8) (hp : p < n) (hT : ∀ j, j < n → hI S 26 (14 * ch + j) = T j) (h : ∀ S', (∀ q k, q ≠ 28 → hI S' q k = hI S q k) → (∀ q k, hR S' q k = hR S q k) → post (if x3 = 0 then (if (mtF n f o (nI ch) T p n).1 = -1 then -1000000005 else (mtF n f o (nI ch) T p n).1) else (if (mtF n f o (nI ch) T p n).1 = -1 then -1000000005 else (mtF n f o (nI ch) T p n).2)) S') : ∃ k, LX7_match_60 ln post k S 0 (nI p) (nI ch) x3 (-1000000005) (-1000000005) 0 := by
  have key : ∀ m i S', i + m = n → (∀ q k, q ≠ 28 → hI S' q k = hI S q k) → (∀ q k, hR S' q k = hR S q k) → LX7_match_60 ln post (m + 1) S' 0 (nI p) (nI ch) x3 (if (mtF n f o (nI ch) T p i).1 = -1 then -1000000005 else (mtF n f o (nI ch) T p i).1) (if (mtF n f o (nI ch) T p i).1 = -1 then -1000000005 else (mtF n f o (nI ch) T p i).2) (nI i) := by
    intro m
    induction m with
    | zero =>
      intro i S' hi g1 g2
      have hs' : SH S' := hs.of (fun _ _ => g2 _ _)
      have e : i = n := by omega
      subst e
      rw [LX7_match_60]
      dsimp only
      rw [sh0_0 hs', dn_e, lt_e, g1 1 6 (by decide), hk.2.2.1, if_pos (nI_le (by omega) (by omega))]
      have k := h S' g1 g2
      by_cases u : x3 = 0
      · rw [if_pos u] at k ⊢; exact k
      · rw [if_neg u] at k ⊢; exact k
    | succ m ih =>
      intro i S' hi g1 g2
      have hs' : SH S' := hs.of (fun _ _ => g2 _ _)
      have k' := hk.ag (Or.inl rfl) (fun q k _ u => g1 q k u) g2
      have s3 : ∀ j, j < n → hI S' 5 j = f 3 j := fun j hj => k'.2.2.2.1 3 (by decide) j hj
      have mok := mtF_ok (n := n) (f := f) (o := o) (ch := nI ch) (T := T) (p := p) i (by omega)
      have step : ∀ S1, (∀ q k, q ≠ 28 → hI S1 q k = hI S q k) → (∀ q k, hR S1 q k = hR S q k) → ¬ f 3 i = f 3 p → BX7_match_131 ln post (LX7_match_60 ln post (m + 1)) S1 0 (nI p) (nI ch) x3 (if (mtF n f o (nI ch) T p i).1 = -1 then -1000000005 else (mtF n f o (nI ch) T p i).1) (if (mtF n f o (nI ch) T p i).1 = -1 then -1000000005 else (mtF n f o (nI ch) T p i).2) (nI i) (mV n f o (nI ch) T p i) := fun S1 r1 r2 ne => by
        have k := ih (i + 1) S1 (by omega) r1 r2
        rw [mtF, if_neg ne] at k
        obtain ⟨cv, hcv, ev⟩ := mV_ok (n := n) (f := f) (o := o) (ch := nI ch) (T := T) (p := p) (j := i)
        unfold BX7_match_131 BX7_match_147 BX7_match_155
        rcases mok with e | ⟨t, v, ht, e, hv⟩
        · rw [e] at k ⊢
          dsimp only at k ⊢
          have nn : ¬ mV n f o (nI ch) T p i ≤ (-1 : Int32) := by
            rw [ev]
            intro u
            have u2 : (0 : Int32) ≤ -1 := Int32.le_trans (nI_pos' (n := cv) (by omega)) u
            exact absurd u2 (by decide)
          rw [if_neg nn] at k
          dsimp only at k
          rw [if_neg (m1_ne (by omega)), if_neg (m1_ne (by omega))] at k
          rw [if_pos rfl, if_pos rfl, lt_e, nI_1]
          exact k
        · have nt : ¬ nI t = (-1000000005 : Int32) := fun u => by
            have := nI_pos' (n := t) (by omega)
            rw [u] at this
            exact absurd this (by decide)
          rw [e] at k ⊢
          dsimp only at k ⊢
          rw [if_neg (m1_ne (by omega)), if_neg (m1_ne (by omega)), if_neg nt]
          by_cases w : mV n f o (nI ch) T p i ≤ v
          · rw [if_pos w] at k ⊢
            dsimp only at k
            rw [if_neg (m1_ne (by omega)), if_neg (m1_ne (by omega))] at k
            rw [lt_e, nI_1]
            exact k
          · rw [if_neg w] at k ⊢
            dsimp only at k
            rw [if_neg (m1_ne (by omega)), if_neg (m1_ne (by omega))] at k
            rw [lt_e, nI_1]
            exact k
      rw [LX7_match_60]
      dsimp only
      rw [sh0_0 hs', dn_e, lt_e, g1 1 6 (by decide), hk.2.2.1, if_neg (nI_ge (by omega) (by omega)), dn_e, sh1_3 hs', dn_e, ln5 hl, al_e (by omega) (by decide), dn_e, sh1_3 hs', dn_e, ln5 hl, al_e (by omega) (by decide), s3 i (by omega), s3 p hp]
      by_cases e : f 3 i = f 3 p
      · rw [if_pos e]
        unfold BX7_match_155
        rw [lt_e, nI_1]
        have k := ih (i + 1) S' (by omega) g1 g2
        rw [mtF, if_pos e] at k
        exact k
      · rw [if_neg e, dn_e, sh1_3 hs', dn_e, ln5 hl, al_e (by omega) (by decide), s3 p hp]
        have ev : ∀ v, v = mV n f o (nI ch) T p i → v = mV n f o (nI ch) T p i := fun _ u => u
        by_cases z : f 3 p = 0
        · rw [if_pos z, sh0_4 hs', dn_e]
          refine p_joined (T := T) hs' hl k' h14 hc hp (Or.inr ⟨i, by omega, rfl⟩) (fun j hj => by rw [g1 _ _ (by decide)]; exact hT j hj) (fun S1 r1 r2 => ?_)
          rw [jv_e (by omega), show jv n f o (nI ch) T p i = mV n f o (nI ch) T p i from (if_pos z).symm]
          exact step S1 (fun q k u => by rw [r1 q k u, g1 q k u]) (fun q k => by rw [r2, g2]) e
        · rw [if_neg z, sh0_4 hs', dn_e]
          refine p_joined (T := T) hs' hl k' h14 hc (by omega) (Or.inr ⟨p, hp, rfl⟩) (fun j hj => by rw [g1 _ _ (by decide)]; exact hT j hj) (fun S1 r1 r2 => ?_)
          rw [jv_e (by omega), show jv n f o (nI ch) T i p = mV n f o (nI ch) T p i from (if_neg z).symm]
          exact step S1 (fun q k u => by rw [r1 q k u, g1 q k u]) (fun q k => by rw [r2, g2]) e
  have k := key n 0 S (by omega) (fun _ _ _ => rfl) (fun _ _ => rfl)
  rw [mtF] at k
  exact ⟨n + 1, k⟩
-- 61.pmatch2.lean.txt
/-! step: match, on -/
theorem p_mmatch {ln : Nat → Nat} {N : Nat} {S : HC} {b n ch p : Nat} {f : Nat → Nat → Int32} {o : Option ((Nat → Int32) × Nat)} {T : Nat → Int32} {x3 : Int32} {post : Int32 → HC → Prop} (hs : SH S) (hl : LN ln) (hk : MK ln N S b n f o) (hv : VP n f) (h14 : n ≤ 14) (hc : ch < 8) (hp : p < n) (hT : ∀ j, j < n → hI S 72 (8 * j + ch) = T j) (hV : ∀ j, V64 (T j)) (h : ∀ S', MC S S' → post (if 0 ≤ (mtF n f o (nI ch) T p n).1 then (if x3 = 0 then (mtF n f o (nI ch) T p n).1 else (mtF n f o (nI ch) T p n).2) else -1000000005) S') : ∃ k, LX8_match_41 ln post k S 68 (nI p) (nI ch) x3 (-1) (-1) 0 := by
  have key : ∀ m i S', i + m = n → MC S S' → (∀ k, hI S' 72 k = hI S 72 k) → LX8_match_41 ln post (m + 1) S' 68 (nI p) (nI ch) x3 (mtF n f o (nI ch) T p i).1 (mtF n f o (nI ch) T p i).2 (nI i) := by
    intro m
    induction m with
    | zero =>
      intro i S' hi c1 c2
      have e : i = n := by omega
      subst e
      have hs' := c1.sh hs
      rw [LX8_match_41]
      dsimp only
      rw [sh68_0 hs', dn_e, ln69 hl, al_l1 (by decide) (by decide), (hk.ag c1).1, if_pos (nI_le (by omega) (by omega))]
      have k := h S' c1
      by_cases u : 0 ≤ (mtF i f o (nI ch) T p i).1
      · rw [if_pos u] at k ⊢
        by_cases w : x3 = 0
        · rw [if_pos w] at k ⊢; exact k
        · rw [if_neg w] at k ⊢; exact k
      · rw [if_neg u] at k ⊢; exact k
    | succ m ih =>
      intro i S' hi c1 c2
      have hs' := c1.sh hs
      have k' := hk.ag c1
      have step : ∀ S1, MC S S1 → (∀ k, hI S1 72 k = hI S 72 k) → ¬ f 3 i = f 3 p → BX8_match_96 ln post (LX8_match_41 ln post (m + 1)) S1 68 (nI p) (nI ch) x3 (mtF n f o (nI ch) T p i).1 (mtF n f o (nI ch) T p i).2 (nI i) (mV n f o (nI ch) T p i) := fun S1 r1 r2 ne => by
        have k := ih (i + 1) S1 (by omega) r1 r2
        rw [mtF, if_neg ne] at k
        unfold BX8_match_96 BX8_match_112 BX8_match_128 BX8_match_130
        by_cases w : mV n f o (nI ch) T p i ≤ (mtF n f o (nI ch) T p i).2
        · rw [if_pos w] at k
          rw [if_pos w, if_pos w, lt_e, nI_1]; exact k
        · rw [if_neg w] at k
          rw [if_neg w, if_neg w, lt_e, nI_1]; exact k
      rw [LX8_match_41]
      dsimp only
      rw [sh68_0 hs', dn_e, ln69 hl, al_l1 (by decide) (by decide), k'.1, if_neg (nI_ge (by omega) (by omega)), p_of3 hs' hl (by omega), p_of3 hs' hl (by omega), k'.2.1 3 (by decide) i (by omega), k'.2.1 3 (by decide) p hp]
      by_cases e : f 3 i = f 3 p
      · rw [if_pos e]
        unfold BX8_match_130
        rw [lt_e, nI_1]
        have k := ih (i + 1) S' (by omega) c1 c2
        rw [mtF, if_pos e] at k
        exact k
      · rw [if_neg e, p_of3 hs' hl (by omega), k'.2.1 3 (by decide) p hp]
        have t' : ∀ j, j < n → hI S' 72 (8 * j + ch) = T j := fun j hj => by rw [c2]; exact hT j hj
        by_cases z : f 3 p = 0
        · rw [if_pos z]
          refine p_childOf (T := T) hs' hl k' hv h14 hc hp (Or.inr ⟨i, by omega, rfl, t' i (by omega), hV i⟩) (t' p hp) (hV p) (fun S1 r1 r2 => ?_)
          rw [jv_e (by omega), show jv n f o (nI ch) T p i = mV n f o (nI ch) T p i from (if_pos z).symm]
          exact step S1 (c1.tr r1) (fun k => by rw [r2, c2]) e
        · rw [if_neg z]
          refine p_childOf (T := T) hs' hl k' hv h14 hc (by omega) (Or.inr ⟨p, hp, rfl, t' p hp, hV p⟩) (t' i (by omega)) (hV i) (fun S1 r1 r2 => ?_)
          rw [jv_e (by omega), show jv n f o (nI ch) T i p = mV n f o (nI ch) T p i from (if_neg z).symm]
          exact step S1 (c1.tr r1) (fun k => by rw [r2, c2]) e
  have k := key n 0 S (by omega) (MC.rf S) (fun _ => rfl)
  rw [mtF] at k
  exact ⟨n + 1, k⟩
theorem s_match {N : Nat} {ln : Nat → Nat} {S : HC} (h : PI N ln S) (a1 a2 a3 : Int32) : wpX7_match ln S 0 a1 a2 a3 fun v S => wpX8_match ln S 68 a1 a2 a3 fun w S => OK N ln v w S := by
  obtain ⟨⟨hs, hl, -, -⟩, ⟨⟨n, hn⟩, m, m1, m2, m3, m4⟩, -⟩ := id h
  have h14 := hn.1
  have hv := hn.2.2.2.2.1
  unfold wpX7_match BX7_match_27
  rw [sh0_0 hs, dn_e, p_has]
  rcases i_in a1 n (by omega) with ⟨p, hp, rfl⟩ | hx
  · rw [hasT hn.2.1 h14 hp, if_neg (by decide), p_isCharge]
    have no : ¬ ((0 ≤ a2 ∧ a2 < 8) ∧ 0 ≤ a3 ∧ a3 ≤ 1) → wpX8_match ln S 68 (nI p) a2 a3 fun w S => OK N ln (-1000000001) w S := fun q => by
      unfold wpX8_match BX8_match_24
      rw [p_isOne hs hl, oneT hn.2.2.1 h14 hp, if_neg (by decide), p_mCharge, chE]
      by_cases c : 0 ≤ a2 ∧ a2 < 8
      · rw [bI_t c, if_neg (by decide), p_in, bI_f (fun u => q ⟨c, u⟩), if_pos rfl]; exact ⟨rfl, h⟩
      · rw [bI_f c, if_pos rfl]; exact ⟨rfl, h⟩
    by_cases c : 0 ≤ a2 ∧ a2 < 8
    · obtain ⟨ch, hc, rfl⟩ := ge_of (n := 8) (by decide) c
      rw [bI_t c, if_neg (by decide)]
      by_cases d1 : a3 < 0
      · rw [if_pos d1]; exact no (fun q => absurd d1 (Int32.not_lt.mpr q.2.1))
      rw [if_neg d1]
      by_cases d2 : a3 ≤ 1
      · rw [if_pos d2, sh0_4 hs, dn_e, sh0_0 hs, dn_e]
        refine p_lookAt (n := n) (m := m) (f := mf S 69) hs hl (Or.inl rfl) hn.2.1 hn.2.2.2.1 h14 hn.2.2.1 (fun _ _ _ _ => rfl) m1 m2 m3 m4 (fun S1 o k1 k2 e1 e2 => ?_)
        have s1 : Sm S S1 := ⟨fun r k u => e1 r k (fun v => u (by unfold sc; omega)), fun r k u _ _ => e2 r k u⟩
        have hs1 := hs.sm s1
        rw [sh0_4 hs1, dn_e]
        refine p_workOut hs1 hl (Or.inl rfl) k1 hv h14 hc (fun S2 w2 => ?_)
        have s2 : Sm S1 S2 := ⟨fun r k u => w2.1 r k (fun v => u (by unfold sc; omega)) (fun v => u (by unfold sc; omega)), fun r k _ _ _ => w2.2.2.2 r k⟩
        have hs2 := hs1.sm s2
        refine p_xmatch hs2 hl (k1.ag (Or.inl rfl) w2.1 w2.2.2.2) h14 hc hp w2.2.2.1 (fun S3 g1 g2 => ?_)
        have s3 : Sm S2 S3 := ⟨fun r k u => g1 r k (fun v => u (by unfold sc; omega)), fun r k _ _ _ => g2 r k⟩
        have hs3 := hs2.sm s3
        have k2' := (k2.wo w2.1 w2.2.2.2).wo (fun q k _ u => g1 q k u) g2
        have mok := mtF_ok (n := n) (f := mf S 69) (o := o) (ch := nI ch) (T := ptT n (mf S 69) o (nI ch) n) (p := p) n (by omega)
        unfold wpX8_match
        try dsimp only
        rw [p_isOne hs3 hl, oneT k2'.1 h14 hp, if_neg (by decide), p_mCharge, chE, bI_t c, if_neg (by decide), p_in, bI_t ⟨Int32.not_lt.mp d1, d2⟩, if_neg (by decide)]
        refine p_worksOf hs3 hl k2' hv h14 hc (fun S4 w4 => ?_)
        refine p_mmatch (w4.1.sh hs3) hl (k2'.ag w4.1) hv h14 hc hp w4.2.1 (ptT_ok n) (fun S5 c5 => ⟨?_, h.sm ((((s1.tr s2).tr s3).tr w4.1.sm).tr c5.sm)⟩)
        rcases mok with e | ⟨t, v, ht, e, -⟩
        · rw [e]
          dsimp only
          rw [if_pos rfl, if_neg (show ¬ (0 : Int32) ≤ -1 by decide)]
          split <;> rfl
        · rw [e]
          dsimp only
          simp only [if_neg (m1_ne (show t < 2 ^ 31 by omega)), if_pos (nI_pos' (show t < 2 ^ 31 by omega))]
      · rw [if_neg d2]; exact no (fun q => d2 q.2.2)
    · rw [bI_f c, if_pos rfl]; exact no (fun q => c q.1)
  · rw [hasF hn.2.1 hx, if_pos rfl]
    unfold wpX8_match BX8_match_24
    dsimp only
    rw [p_isOne hs hl, oneF hn.2.2.1 h14 hx, if_pos rfl]
    exact ⟨rfl, h⟩
