/-! shields: what a part is, as numbers; the class's side -/
def cl64 (x : Int32) : Int32 := if x < 0 then 0 else if 64 < x then 64 else x
def V64 (v : Int32) : Prop := ∃ c, c ≤ 64 ∧ v = nI c
theorem cl64_ok (x : Int32) : V64 (cl64 x) := by
  unfold cl64
  by_cases h1 : x < 0
  · rw [if_pos h1]; exact ⟨0, by decide, rfl⟩
  rw [if_neg h1]
  by_cases h2 : 64 < x
  · rw [if_pos h2]; exact ⟨64, by decide, rfl⟩
  · rw [if_neg h2]
    obtain ⟨c, hc, e⟩ := nI_of2 (n := 64) (M := 64) (x := x) rfl h1 (Int32.not_lt.mp h2)
    exact ⟨c, hc, e⟩
theorem cl64_id {x : Int32} (h : V64 x) : cl64 x = x := by
  obtain ⟨c, hc, rfl⟩ := h
  unfold cl64
  rw [if_neg (nI_pos (by omega)), if_neg (show ¬ (64 : Int32) < nI c from nI_nlt (a := 64) hc (by decide))]
theorem half_ok {l r : Int32} (h1 : V64 l) (h2 : V64 r) : V64 ((l + r) / 2) := by
  obtain ⟨a, ha, rfl⟩ := h1
  obtain ⟨b, hb, rfl⟩ := h2
  rw [nI_add, show (2 : Int32) = nI 2 from rfl, pk_div (by omega) (by decide) (by decide)]
  exact ⟨_, by omega, rfl⟩
/-- two parts joined: with no law, or by the code cd of length c -/
def JF (o : Option ((Nat → Int32) × Nat)) (l r ch : Int32) : Int32 := match o with
  | none => cl64 ((l + r) / 2)
  | some p => cl64 (evF l r ch p.1 p.2 0 (fun _ => 0) 0 0)
theorem JF_ok (o : Option ((Nat → Int32) × Nat)) (l r ch : Int32) : V64 (JF o l r ch) := by
  cases o with
  | none => exact cl64_ok _
  | some p => exact cl64_ok _
def ixN (x : Int32) : Nat := x.toInt.toNat
theorem ixN_e {p : Nat} (h : p < 2 ^ 31) : ixN (nI p) = p := by unfold ixN; rw [nI_toInt h]; rfl
def byK (k : Int32) (own : Prop) [Decidable own] (h mo : Int32) : Int32 := if k = 1 then (if 2 ≤ h then h - 2 else 0) else if k = 2 then (if own then 64 else h) else if k = 3 then (if 2 ≤ h then h - 2 else 0) / 2 else if k = 4 then (if own then 8 else 0) else if k = 5 then mo else h
/-- what one has of a charge as heir -/
def ptH (n : Nat) (f : Nat → Nat → Int32) (o : Option ((Nat → Int32) × Nat)) (ch : Int32) (T : Nat → Int32) (i : Nat) : Int32 := if f 1 i = -1 then (if f 4 i = ch then 64 else 0) else JF o (T (ixN (f 1 i))) (if ¬ f 2 i = -1 ∧ herP n f (ixN (f 2 i)) then T (ixN (f 2 i)) else T (ixN (f 1 i))) ch
def pt1 (n : Nat) (f : Nat → Nat → Int32) (o : Option ((Nat → Int32) × Nat)) (ch : Int32) (T : Nat → Int32) (i : Nat) : Int32 := byK (f 0 i) (f 4 i = ch) (ptH n f o ch T i) (if f 2 i = -1 then 0 else T (ixN (f 2 i)))
def ptT (n : Nat) (f : Nat → Nat → Int32) (o : Option ((Nat → Int32) × Nat)) (ch : Int32) : Nat → Nat → Int32
  | 0 => fun _ => 0
  | i + 1 => upS (ptT n f o ch i) i (pt1 n f o ch (ptT n f o ch i) i)
theorem dec2_ok {h : Int32} (hh : V64 h) : V64 (if 2 ≤ h then h - 2 else 0) := by
  obtain ⟨c, hc, rfl⟩ := hh
  by_cases e : 2 ≤ c
  · rw [if_pos (show (2 : Int32) ≤ nI c from nI_le (a := 2) e (by omega)), show nI c - 2 = nI (c - 2) from pk_sub (b := 2) e]
    exact ⟨_, by omega, rfl⟩
  · rw [if_neg (show ¬ (2 : Int32) ≤ nI c from nI_ge (b := 2) (by omega) (by decide))]
    exact ⟨0, by decide, rfl⟩
theorem byK_ok {k : Int32} {own : Prop} [Decidable own] {h mo : Int32} (hh : V64 h) (hm : V64 mo) : V64 (byK k own h mo) := by
  obtain ⟨c, hc, e⟩ := dec2_ok hh
  unfold byK
  rw [e]
  repeat' split
  · exact ⟨c, hc, rfl⟩
  · exact ⟨64, by decide, rfl⟩
  · exact hh
  · rw [show (2 : Int32) = nI 2 from rfl, pk_div (by omega) (by decide) (by decide)]
    exact ⟨_, by omega, rfl⟩
  · exact ⟨8, by decide, rfl⟩
  · exact ⟨0, by decide, rfl⟩
  · exact hm
  · exact hh
theorem ptH_ok {n : Nat} {f : Nat → Nat → Int32} {o : Option ((Nat → Int32) × Nat)} {ch : Int32} {T : Nat → Int32} {i : Nat} : V64 (ptH n f o ch T i) := by
  unfold ptH
  repeat' split
  · exact ⟨64, by decide, rfl⟩
  · exact ⟨0, by decide, rfl⟩
  · exact JF_ok _ _ _ _
  · exact JF_ok _ _ _ _
theorem pt1_ok {n : Nat} {f : Nat → Nat → Int32} {o : Option ((Nat → Int32) × Nat)} {ch : Int32} {T : Nat → Int32} {i : Nat} (hT : ∀ j, V64 (T j)) : V64 (pt1 n f o ch T i) := by
  unfold pt1
  refine byK_ok ptH_ok ?_
  split
  · exact ⟨0, by decide, rfl⟩
  · exact hT _
theorem ptT_ok {n : Nat} {f : Nat → Nat → Int32} {o : Option ((Nat → Int32) × Nat)} {ch : Int32} : ∀ i j, V64 (ptT n f o ch i j) := by
  intro i
  induction i with
  | zero => intro j; exact ⟨0, by decide, rfl⟩
  | succ i ih =>
    intro j
    rw [ptT]
    unfold upS
    by_cases e : j = i
    · rw [if_pos e]; exact pt1_ok ih
    · rw [if_neg e]; exact ih j
theorem ptT_st {n : Nat} {f : Nat → Nat → Int32} {o : Option ((Nat → Int32) × Nat)} {ch : Int32} {i j : Nat} (h : j < i) : ∀ m, ptT n f o ch (i + m) j = ptT n f o ch i j := by
  intro m
  induction m with
  | zero => rfl
  | succ m ih =>
    rw [show i + (m + 1) = i + m + 1 by omega, ptT]
    unfold upS
    rw [if_neg (by omega), ih]
/-- the class's Shields look at the land b -/
def LK (ln : Nat → Nat) (N : Nat) (S : HC) (b n : Nat) (f : Nat → Nat → Int32) (o : Option ((Nat → Int32) × Nat)) : Prop := hR S 25 3 = some b ∧ hI S 25 5 = herB n f n ∧ hI S b 6 = nI n ∧ AG n (xf S b) f ∧ ((hR S 25 4 = none ∧ o = none) ∨ ∃ q t c am, (am = 69 ∨ am = 70) ∧ hR S 25 4 = some q ∧ LAW ln N S q am t 0 c ∧ o = some (fun i => hI S am (117 + 96 * t + i), c))
theorem p_hidden {ln : Nat → Nat} {S : HC} {b n p ch : Nat} {post : Int32 → HC → Prop} (hs : SH S) (hl : LN ln) (h3 : hR S 25 3 = some b) (hn : hI S b 6 = nI n) (h14 : n ≤ 14) (hp : p < n) (hc : ch < 8) : wpX4_hidden ln S 25 (nI p) (nI ch) post = post (hI S 26 (14 * ch + p)) S := by
  unfold wpX4_hidden
  rw [h3, dn_e, p_has, hasT hn h14 hp, if_neg (by decide), p_isCharge, bI_t ⟨nI_pos' (by omega), show nI ch < 8 from nI_lt (b := 8) hc (by decide)⟩, if_neg (by decide), sh25_0 hs, dn_e]
  simp only [lt_e]
  rw [show nI ch * 14 = nI (ch * 14) from pk_mul ch 14, nI_add, ln26 hl, al_e (by omega) (by decide), Nat.mul_comm ch 14]
theorem p_hidden0 {ln : Nat → Nat} {S : HC} {b n : Nat} {x : Int32} {post : Int32 → HC → Prop} (h3 : hR S 25 3 = some b) (hn : hI S b 6 = nI n) : wpX4_hidden ln S 25 (-1) x post = post 0 S := by
  unfold wpX4_hidden BX4_hidden_18
  rw [h3, dn_e, p_has, hasF hn (Or.inl (by decide)), if_pos rfl]
/-- two parts joined, the class's side: only the stack 28 is written -/
theorem p_joined0 {ln : Nat → Nat} {N : Nat} {S : HC} {b n ch : Nat} {f : Nat → Nat → Int32} {o : Option ((Nat → Int32) × Nat)} {l r : Int32} {post : Int32 → HC → Prop} (hs : SH S) (hl : LN ln) (hk : LK ln N S b n f o) (h : ∀ S', (∀ q k, q ≠ 28 → hI S' q k = hI S q k) → (∀ q k, hR S' q k = hR S q k) → post (JF o l r (nI ch)) S') : BX4_joined_54 ln post S 25 (nI ch) l r := by
  unfold BX4_joined_54 BX4_joined_89
  rw [lt_e, lt_e]
  rcases hk.2.2.2.2 with ⟨e1, e2⟩ | ⟨q, t, c, am, -, e1, e2, e3⟩
  · rw [e1, cO_n, ne_e (by decide)]
    try rw [lt_e]
    rw [p_xwithin (by decide)]
    have k := h S (fun _ _ _ => rfl) (fun _ _ => rfl)
    rw [e2] at k
    exact k
  · rw [e1, cO_s]
    try rw [lt_e]
    rw [sh25_2 hs, dn_e, dn_e]
    refine p_give (ln28 hl) (by decide) e2 (fun S1 x1 => ?_)
    rw [p_xwithin (by decide)]
    have k := h S1 x1.2.1 x1.2.2
    rw [e3] at k
    have ev : evF l r (nI ch) (fun i => hI S am (117 + 96 * t + i)) c 0 (hI S 28) 0 0 = evF l r (nI ch) (fun i => hI S am (117 + 96 * t + i)) c 0 (fun _ => 0) 0 0 := evF_ag c 0 0 1 _ _ e2.2.2.2.2.2.2.2.1 (fun j hj => absurd hj (by omega)) 0 (by decide)
    rw [ev]
    exact k
theorem p_joined {ln : Nat → Nat} {N : Nat} {S : HC} {b n ch p : Nat} {f : Nat → Nat → Int32} {o : Option ((Nat → Int32) × Nat)} {mo : Int32} {T : Nat → Int32} {post : Int32 → HC → Prop} (hs : SH S) (hl : LN ln) (hk : LK ln N S b n f o) (h14 : n ≤ 14) (hc : ch < 8) (hp : p < n) (hm : mo = -1 ∨ ∃ m, m < n ∧ mo = nI m) (hT : ∀ j, j < n → hI S 26 (14 * ch + j) = T j) (h : ∀ S', (∀ q k, q ≠ 28 → hI S' q k = hI S q k) → (∀ q k, hR S' q k = hR S q k) → post (JF o (T p) (if ¬ mo = -1 ∧ herP n f (ixN mo) then T (ixN mo) else T p) (nI ch)) S') : wpX4_joined ln S 25 (nI p) mo (nI ch) post := by
  unfold wpX4_joined BX4_joined_35 BX4_joined_36
  rw [p_hidden hs hl hk.1 hk.2.2.1 h14 hp hc, hT p hp, hk.1, dn_e, p_has]
  rcases hm with rfl | ⟨m, hm, rfl⟩
  · rw [hasF hk.2.2.1 (Or.inl (by decide)), if_pos rfl, if_pos rfl]
    refine p_joined0 hs hl hk (fun S' q1 q2 => ?_)
    have k := h S' q1 q2
    rw [if_neg (fun u => u.1 rfl)] at k
    exact k
  · rw [hasT hk.2.2.1 h14 hm, if_neg (by decide), lt_e, lt_e, lt_e, hk.2.1, bit_e _ (by omega), herB_bit (by omega) n (by omega)]
    by_cases e : herP n f m
    · rw [decide_eq_true (And.intro hm e), if_pos rfl, if_pos rfl, if_neg (by decide), p_hidden hs hl hk.1 hk.2.2.1 h14 hm hc, hT m hm]
      refine p_joined0 hs hl hk (fun S' q1 q2 => ?_)
      have k := h S' q1 q2
      rw [ixN_e (by omega), if_pos ⟨m1_ne (by omega), e⟩] at k
      exact k
    · rw [decide_eq_false (fun u => e u.2), if_neg (show ¬ (false = true) by decide), if_neg (show ¬ (0 : Int32) = 1 by decide), if_pos rfl]
      refine p_joined0 hs hl hk (fun S' q1 q2 => ?_)
      have k := h S' q1 q2
      rw [ixN_e (by omega), if_neg (fun u => e u.2)] at k
      exact k
