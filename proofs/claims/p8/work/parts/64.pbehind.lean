/-! shields of a land that is only thought; step behind -/
/-- the texts of the land b and of the reference's row a, and which of them joins -/
def MWr (ln : Nat → Nat) (N : Nat) (S : HC) (b a : Nat) (o : Option ((Nat → Int32) × Nat)) : Prop := ∃ m, m ≤ 14 ∧ hI S a 4 = nI m ∧ (∀ t, t < m → ∃ q key c, hR S (b + 7) t = some q ∧ LAW ln N S q a t key c) ∧ ((lastL (ksM S a) 0 m = -1 ∧ o = none) ∨ ∃ q t c, t < m ∧ lastL (ksM S a) 0 m = nI t ∧ LAW ln N S q a t 0 c ∧ o = some (fun i => hI S a (117 + 96 * t + i), c))
abbrev MW (ln : Nat → Nat) (N : Nat) (S : HC) (b : Nat) (o : Option ((Nat → Int32) × Nat)) : Prop := MWr ln N S b 69 o
theorem MWr.ag {ln : Nat → Nat} {N : Nat} {S S' : HC} {b a : Nat} {o : Option ((Nat → Int32) × Nat)} (h : MWr ln N S b a o) (e1 : ∀ k, 89 ≤ k ∨ k = 4 → hI S' a k = hI S a k) (e2 : ∀ r k, 91 ≤ r → hI S' r k = hI S r k) (e3 : ∀ r k, r = b + 7 ∨ 91 ≤ r → hR S' r k = hR S r k) : MWr ln N S' b a o := by
  obtain ⟨m, m1, m2, m3, m4⟩ := h
  have ks : ksM S' a = ksM S a := by funext t; unfold ksM; rw [e1 _ (by omega)]
  have la : ∀ {q t key c}, LAW ln N S q a t key c → LAW ln N S' q a t key c := fun u => u.ag (fun r k v => e2 r k v) (fun r k v => e3 r k (Or.inr v)) (fun k v => e1 k (Or.inl v))
  refine ⟨m, m1, by rw [e1 4 (by omega)]; exact m2, fun t ht => ?_, ?_⟩
  · obtain ⟨q, key, c, q1, q2⟩ := m3 t ht
    exact ⟨q, key, c, by rw [e3 _ _ (Or.inl rfl)]; exact q1, la q2⟩
  · rw [ks]
    rcases m4 with u | ⟨q, t, c, u1, u2, u3, u4⟩
    · exact Or.inl u
    · refine Or.inr ⟨q, t, c, u1, u2, la u3, ?_⟩
      rw [u4]
      congr 2
      funext i
      exact (e1 _ (by omega)).symm
theorem MW.ag {ln : Nat → Nat} {N : Nat} {S S' : HC} {b : Nat} {o : Option ((Nat → Int32) × Nat)} (h : MW ln N S b o) (e1 : ∀ k, 89 ≤ k ∨ k = 4 → hI S' 69 k = hI S 69 k) (e2 : ∀ r k, 91 ≤ r → hI S' r k = hI S r k) (e3 : ∀ r k, hR S' r k = hR S r k) : MW ln N S' b o := MWr.ag h e1 e2 (fun r k _ => e3 r k)
theorem MW.tm {ln : Nat → Nat} {N : Nat} {S S' : HC} {b : Nat} {o : Option ((Nat → Int32) × Nat)} (h : MW ln N S b o) (e : TM S S') : MW ln N S' b o := h.ag e.2.1 (fun r k u => e.1 r k (by omega) (by omega) (by omega) (by omega)) e.2.2
theorem MW.fl {ln : Nat → Nat} {N : Nat} {S S' : HC} {b : Nat} {o : Option ((Nat → Int32) × Nat)} {g : Nat → Int32} (h : MW ln N S b o) (e : Fl S S' 73 0 89 g) : MW ln N S' b o := h.ag (fun k _ => e.o (by decide)) (fun r k u => e.o (by omega)) e.2
theorem MW.wo {ln : Nat → Nat} {N : Nat} {S S' : HC} {b : Nat} {o : Option ((Nat → Int32) × Nat)} (h : MW ln N S b o) (h1 : ∀ q k, q ≠ 26 → q ≠ 28 → hI S' q k = hI S q k) (h2 : ∀ q k, hR S' q k = hR S q k) : MW ln N S' b o := h.ag (fun k _ => h1 _ _ (by decide) (by decide)) (fun r k u => h1 r k (by omega) (by omega)) h2
theorem MW.mk {ln : Nat → Nat} {N : Nat} {S : HC} {b n : Nat} {f : Nat → Nat → Int32} {fe ye z : Int32} {o : Option ((Nat → Int32) × Nat)} (h : MW ln N S b o) (hm : MA S n f fe ye z) : MK ln N S b n f o := ⟨hm.1, hm.2.1, h⟩
theorem p_look3 {ln : Nat → Nat} {N : Nat} {S : HC} {b n m am : Nat} {f : Nat → Nat → Int32} {post : HC → Prop} (hs : SH S) (hl : LN ln) (hb : LB b) (ham : am = 69 ∨ am = 70) (hn : hI S b 6 = nI n) (hf : AG n (xf S b) f) (h14 : n ≤ 14) (m1 : m ≤ 14) (m2 : hI S b 11 = nI m) (m3 : hI S am 4 = nI m) (m4 : ∀ t, t < m → ∃ q key c, hR S (b + 7) t = some q ∧ LAW ln N S q am t key c) (h : ∀ S' o, LK ln N S' b n f o → MWr ln N S' b am o → (∀ r k, ¬ (r = 25 ∧ k = 5) → hI S' r k = hI S r k) → (∀ r k, ¬ (r = 25 ∧ (k = 3 ∨ k = 4)) → hR S' r k = hR S r k) → post S') : wpX4_lookAt ln S 25 b post := by
  have b25 : ∀ i, i ≤ 7 → b + i ≠ 25 := fun i hi => by rcases hb with rfl | rfl | rfl | rfl <;> omega
  unfold wpX4_lookAt
  rw [lt_e]
  have hs1 : SH (sR S 25 3 (some b)) := hs.sR _ (by decide)
  have la : ∀ {S' : HC} {q t key c}, (∀ r k, ¬ (r = 25 ∧ k = 5) → hI S' r k = hI S r k) → (∀ r k, ¬ (r = 25 ∧ (k = 3 ∨ k = 4)) → hR S' r k = hR S r k) → LAW ln N S q am t key c → LAW ln N S' q am t key c := fun e1 e2 u => u.ag (fun r k v => e1 r k (by omega)) (fun r k v => e2 r k (by omega)) (fun k _ => e1 _ _ (by omega))
  have r1 : ∀ r k, ¬ (r = 25 ∧ (k = 3 ∨ k = 4)) → hR (sR S 25 3 (some b)) r k = hR S r k := fun r k u => by rw [hR_sR, if_neg (by omega)]
  have w1 : ∀ t, t < m → ∃ q key c, hR (sR S 25 3 (some b)) (b + 7) t = some q ∧ LAW ln N (sR S 25 3 (some b)) q am t key c := fun t ht => by
    obtain ⟨q, key, c, q1, q2⟩ := m4 t ht
    exact ⟨q, key, c, by rw [r1 _ _ (by have := b25 7 (by decide); omega)]; exact q1, la (fun _ _ _ => rfl) r1 q2⟩
  have fin : ∀ (oq : Option Nat) (o : Option ((Nat → Int32) × Nat)), ((oq = none ∧ o = none ∧ lastL (ksM S am) 0 m = -1) ∨ ∃ q t c, oq = some q ∧ t < m ∧ lastL (ksM S am) 0 m = nI t ∧ LAW ln N S q am t 0 c ∧ o = some (fun i => hI S am (117 + 96 * t + i), c)) → lt_ (sR (sR S 25 3 (some b)) 25 4 oq) fun S => wpX0_heiresses ln S b fun z2 S => lt_ (sI S 25 5 z2) fun S => post S := fun oq o ho => by
    rw [lt_e]
    have hs2 : SH (sR (sR S 25 3 (some b)) 25 4 oq) := hs1.sR _ (by decide)
    refine p_heiresses hs2 hl hb hn hf h14 ?_
    rw [lt_e]
    have e1 : ∀ r k, ¬ (r = 25 ∧ k = 5) → hI (sI (sR (sR S 25 3 (some b)) 25 4 oq) 25 5 (herB n f n)) r k = hI S r k := fun r k u => by rw [hI_ne u]; rfl
    have e2 : ∀ r k, ¬ (r = 25 ∧ (k = 3 ∨ k = 4)) → hR (sI (sR (sR S 25 3 (some b)) 25 4 oq) 25 5 (herB n f n)) r k = hR S r k := fun r k u => by rw [hR_sI, hR_sR, if_neg (by omega), r1 r k u]
    refine h _ o ⟨?_, hI_self _ _ _ _, by rw [e1 _ _ (by have := b25 0 (by decide); omega)]; exact hn, fun k hk j hj => ?_, ?_⟩ ⟨m, m1, by rw [e1 _ _ (by omega)]; exact m3, fun t ht => ?_, ?_⟩ e1 e2
    · rw [hR_sI, hR_sR, if_neg (by decide), hR_sR, if_pos ⟨rfl, rfl⟩]
    · rw [← hf k hk j hj]
      exact e1 _ _ (by have := b25 (1 + k) (by omega); omega)
    · have e4 : hR (sI (sR (sR S 25 3 (some b)) 25 4 oq) 25 5 (herB n f n)) 25 4 = oq := by rw [hR_sI, hR_sR, if_pos ⟨rfl, rfl⟩]
      rw [e4]
      rcases ho with ⟨u1, u2, -⟩ | ⟨q, t, c, u1, u2, u3, u4, u5⟩
      · exact Or.inl ⟨u1, u2⟩
      · refine Or.inr ⟨q, t, c, am, ham, u1, la e1 e2 u4, ?_⟩
        rw [u5]
        congr 2
        funext i
        exact (e1 _ _ (by omega)).symm
    · obtain ⟨q, key, c, q1, q2⟩ := m4 t ht
      exact ⟨q, key, c, by rw [e2 _ _ (by have := b25 7 (by decide); omega)]; exact q1, la e1 e2 q2⟩
    · have ks : ksM (sI (sR (sR S 25 3 (some b)) 25 4 oq) 25 5 (herB n f n)) am = ksM S am := by funext t; unfold ksM; rw [e1 _ _ (by omega)]
      rw [ks]
      rcases ho with ⟨u1, u2, u3⟩ | ⟨q, t, c, u1, u2, u3, u4, u5⟩
      · exact Or.inl ⟨u3, u2⟩
      · refine Or.inr ⟨q, t, c, u2, u3, la e1 e2 u4, ?_⟩
        rw [u5]
        congr 2
        funext i
        exact (e1 _ _ (by omega)).symm
  refine p_lawFor (key := 0) (a := am) hs1 hl hb (by decide) m1 m2 w1 (fun e => ?_) (fun t q c t1 t3 q1 q2 => ?_)
  · exact fin none none (Or.inl ⟨rfl, rfl, e⟩)
  · exact fin (some q) (some (fun i => hI S am (117 + 96 * t + i), c)) (Or.inr ⟨q, t, c, rfl, t1, t3, q2.ag (fun _ _ _ => rfl) (fun r k v => (r1 r k (by omega)).symm) (fun _ _ => rfl), rfl⟩)
theorem p_look2 {ln : Nat → Nat} {N : Nat} {S : HC} {b n m : Nat} {f : Nat → Nat → Int32} {post : HC → Prop} (hs : SH S) (hl : LN ln) (hb : LB b) (hn : hI S b 6 = nI n) (hf : AG n (xf S b) f) (h14 : n ≤ 14) (m1 : m ≤ 14) (m2 : hI S b 11 = nI m) (m3 : hI S 69 4 = nI m) (m4 : ∀ t, t < m → ∃ q key c, hR S (b + 7) t = some q ∧ LAW ln N S q 69 t key c) (h : ∀ S' o, LK ln N S' b n f o → MW ln N S' b o → (∀ r k, ¬ (r = 25 ∧ k = 5) → hI S' r k = hI S r k) → (∀ r k, ¬ (r = 25 ∧ (k = 3 ∨ k = 4)) → hR S' r k = hR S r k) → post S') : wpX4_lookAt ln S 25 b post := p_look3 hs hl hb (Or.inl rfl) hn hf h14 m1 m2 m3 m4 h
theorem look_sm {S S' : HC} (e1 : ∀ r k, ¬ (r = 25 ∧ k = 5) → hI S' r k = hI S r k) (e2 : ∀ r k, ¬ (r = 25 ∧ (k = 3 ∨ k = 4)) → hR S' r k = hR S r k) : Sm S S' := ⟨fun r k u => e1 r k (fun v => u (by unfold sc; omega)), fun r k u _ _ => e2 r k u⟩
theorem wo_sm {S S' : HC} (e1 : ∀ q k, q ≠ 26 → q ≠ 28 → hI S' q k = hI S q k) (e2 : ∀ q k, hR S' q k = hR S q k) : Sm S S' := ⟨fun r k u => e1 r k (fun v => u (by unfold sc; omega)) (fun v => u (by unfold sc; omega)), fun r k _ _ _ => e2 r k⟩
/-- the texts of the thought land, as those of the land that it became -/
theorem LWR.th {ln : Nat → Nat} {N : Nat} {S S' : HC} {b : Nat} (h : LWR ln N S b 69) (hs : Sm S S') (e1 : hI S' 17 11 = hI S b 11) (e2 : ∀ j, j < 14 → hR S' 24 j = hR S (b + 7) j) : ∃ m, m ≤ 14 ∧ hI S' 17 11 = nI m ∧ hI S' 69 4 = nI m ∧ ∀ t, t < m → ∃ q key c, hR S' (17 + 7) t = some q ∧ LAW ln N S' q 69 t key c := by
  obtain ⟨m, m1, m2, m3, m4⟩ := h
  refine ⟨m, m1, by rw [e1]; exact m2, by rw [hs.1 69 4 (by unfold sc; omega)]; exact m3, fun t ht => ?_⟩
  obtain ⟨q, key, c, q1, q2⟩ := m4 t ht
  exact ⟨q, key, c, by rw [e2 t (by omega)]; exact q1, q2.ag (fun r k u => hs.1 r k (by unfold sc; omega)) (fun r k u => hs.2 r k (by omega) (by omega) (by omega)) (fun k _ => hs.1 69 k (by unfold sc; omega))⟩
theorem p_think {ln : Nat → Nat} {S : HC} {n c : Nat} {f : Nat → Nat → Int32} {fe ye z : Int32} {post : HC → Prop} (hs : SH S) (hl : LN ln) (hc : c < 1000) (hx : XA S 1 n f fe ye z) (h14 : n ≤ 14) (h : ∀ S' ye', XA S' 17 (yK fe c (n, f, z)).1 (yK fe c (n, f, z)).2.1 fe ye' (yK fe c (n, f, z)).2.2 → Sm S S' → hI S' 17 11 = hI S 1 11 → (∀ j, j < 14 → hR S' 24 j = hR S 8 j) → post S') : wpX7_think ln S 0 (nI c) post := by
  unfold wpX7_think
  rw [sh0_3 hs, dn_e, sh0_0 hs, dn_e]
  refine p_become hs hl (Or.inr (Or.inr (Or.inl rfl))) (Or.inl rfl) (by omega) (fun S1 f1 => ?_)
  have key : ∀ (m i : Nat) (ye : Int32) (A : LA) (S' : HC), i + m = c → SH S' → A.1 ≤ 14 → XA S' 17 A.1 A.2.1 fe ye A.2.2 → XS 17 S1 S' → (∀ S'' ye', XA S'' 17 (yK fe m A).1 (yK fe m A).2.1 fe ye' (yK fe m A).2.2 → XS 17 S1 S'' → post S'') → LX7_think_13 ln post (m + 1) S' 0 (nI c) (nI i) := by
    intro m
    induction m with
    | zero =>
      intro i ye A S' hi hs' h14 hx hd h
      rw [LX7_think_13]
      dsimp only
      rw [if_pos (nI_le (by omega) (by omega))]
      exact h S' ye hx hd
    | succ m ih =>
      intro i ye A S' hi hs' h14 hx hd h
      rw [LX7_think_13]
      dsimp only
      rw [if_neg (nI_ge (by omega) (by omega)), sh0_3 hs', dn_e]
      refine p_pass hs' hl (Or.inr (Or.inr (Or.inl rfl))) hx h14 (fun S2 hx2 hd2 => ?_)
      obtain ⟨l1, l2, l3⟩ := yN_le (f := A.2.1) (fe := fe) (z := A.2.2) h14
      rw [lt_e, nI_1]
      exact ih (i + 1) _ (yN A.1 A.2.1 fe A.2.2, yF A.1 A.2.1 fe A.2.2, yZ A.1 A.2.1 fe A.2.2) S2 (by omega) (hd2.sh hs') l1 hx2 (hd.tr hd2) h
  refine ⟨c + 1, key c 0 ye (n, f, z) S1 (by omega) (hs.sm f1.sm) h14 (hx.bc h14 f1) (XS.rf _ _) (fun S2 ye2 hx2 hd2 => h S2 ye2 hx2 (f1.sm.tr hd2.sm) ?_ (fun j hj => ?_))⟩
  · rw [hd2.2.1, f1.2.2.1 11 (by omega)]
  · rw [hd2.2.2]; exact f1.2.2.2.2 j hj
/-- what all show of a charge, together -/
def sumB (f : Nat → Nat → Int32) (T : Nat → Int32) (ch : Nat) : Nat → Int32
  | 0 => 0
  | i + 1 => sumB f T ch i + shV f T ch i
theorem p_together {ln : Nat → Nat} {N : Nat} {S : HC} {b n ch : Nat} {f : Nat → Nat → Int32} {o : Option ((Nat → Int32) × Nat)} {T : Nat → Int32} {post : Int32 → HC → Prop} (hs : SH S) (hl : LN ln) (hb : LB b) (hk : LK ln N S b n f o) (h14 : n ≤ 14) (hc : ch < 8) (hT : ∀ p, p < n → hI S 26 (14 * ch + p) = T p) (h : post (sumB f T ch n) S) : wpX4_together ln S 25 (nI ch) post := by
  have key : ∀ m i, i + m = n → LX4_together_4 ln post (m + 1) S 25 (nI ch) (sumB f T ch i) (nI i) := by
    intro m
    induction m with
    | zero =>
      intro i hi
      rw [LX4_together_4]
      dsimp only
      rw [hk.1, dn_e, lt_e, hk.2.2.1, if_pos (nI_le (by omega) (by omega)), show i = n by omega]
      exact h
    | succ m ih =>
      intro i hi
      have k := ih (i + 1) (by omega)
      rw [sumB] at k
      rw [LX4_together_4]
      dsimp only
      rw [hk.1, dn_e, lt_e, hk.2.2.1, if_neg (nI_ge (by omega) (by omega)), p_shown hs hl hb hk h14 hc (by omega) (hT i (by omega)), lt_e, lt_e, nI_1]
      exact k
  exact ⟨n + 1, key n 0 (by omega)⟩
theorem p_mallBear {ln : Nat → Nat} {N : Nat} {S : HC} {b n ch : Nat} {f : Nat → Nat → Int32} {o : Option ((Nat → Int32) × Nat)} {post : Int32 → HC → Prop} (hs : SH S) (hl : LN ln) (hk : MK ln N S b n f o) (hv : VP n f) (h14 : n ≤ 14) (hc : ch < 8) (h : ∀ S', MC S S' → post (sumB f (ptT n f o (nI ch) n) ch n) S') : wpX8_allBear ln S 68 (nI ch) post := by
  unfold wpX8_allBear
  refine p_worksOf hs hl hk hv h14 hc (fun S1 w1 => ?_)
  have hs1 := w1.1.sh hs
  have k1 := hk.ag w1.1
  have key : ∀ m i, i + m = n → LX8_allBear_9 ln post (m + 1) S1 68 (nI ch) (sumB f (ptT n f o (nI ch) n) ch i) (nI i) := by
    intro m
    induction m with
    | zero =>
      intro i hi
      rw [LX8_allBear_9]
      dsimp only
      rw [sh68_0 hs1, dn_e, ln69 hl, al_l1 (by decide) (by decide), k1.1, if_pos (nI_le (by omega) (by omega)), show i = n by omega]
      exact h S1 w1.1
    | succ m ih =>
      intro i hi
      have k := ih (i + 1) (by omega)
      rw [sumB] at k
      rw [LX8_allBear_9]
      dsimp only
      rw [sh68_0 hs1, dn_e, ln69 hl, al_l1 (by decide) (by decide), k1.1, if_neg (nI_ge (by omega) (by omega)), p_borne hs1 hl k1 h14 hc (by omega) (w1.2.1 i (by omega)), lt_e, lt_e, nI_1]
      exact k
  exact ⟨n + 1, key n 0 (by omega)⟩
