/-! step check: the years told, from the image -/
theorem evF_cd {a b e : Int32} {cd cd' : Nat → Int32} : ∀ (n i d : Nat) (st : Nat → Int32), (∀ t, i ≤ t → t < i + n → cd t = cd' t) → evF a b e cd n i st d = evF a b e cd' n i st d := by
  intro n
  induction n with
  | zero => intro i d st _; rfl
  | succ n ih =>
    intro i d st h
    rw [evF, evF, h i (by omega) (by omega)]
    first
      | exact ih (i + 1) _ _ (fun t q1 q2 => h t (by omega) (by omega))
      | (repeat' split) <;> exact ih (i + 1) _ _ (fun t q1 q2 => h t (by omega) (by omega))
theorem MWr.uq {ln : Nat → Nat} {N : Nat} {S : HC} {b b' a : Nat} {o o' : Option ((Nat → Int32) × Nat)} (h : MWr ln N S b a o) (h' : MWr ln N S b' a o') : o = o' := by
  obtain ⟨m, m1, m2, -, m4⟩ := h
  obtain ⟨m', m1', m2', -, m4'⟩ := h'
  have e : m = m' := (nI_eq (by omega) (by omega)).mp (m2.symm.trans m2')
  subst e
  rcases m4 with ⟨u1, u2⟩ | ⟨q, t, c, t1, t2, t3, t4⟩
  · rcases m4' with ⟨v1, v2⟩ | ⟨q', t', c', v1, v2, v3, v4⟩
    · rw [u2, v2]
    · exact absurd (v2.symm.trans u1) (m1_ne (by omega))
  · rcases m4' with ⟨v1, v2⟩ | ⟨q', t', c', v1, v2, v3, v4⟩
    · exact absurd (t2.symm.trans v1) (m1_ne (by omega))
    · have et : t = t' := (nI_eq (by omega) (by omega)).mp (t2.symm.trans v2)
      subst et
      have c1 := t3.2.2.1.2.2
      have c2 := v3.2.2.1.2.2
      have ec : 1000 * 0 + c = 1000 * 0 + c' := (nI_eq (by omega) (by omega)).mp (t3.2.2.2.2.1.symm.trans v3.2.2.2.2.1)
      have ec2 : c = c' := by omega
      rw [t4, v4, ec2]
theorem MWr.ex {ln : Nat → Nat} {N : Nat} {S : HC} {b a : Nat} (h : LWR ln N S b a) : ∃ o, MWr ln N S b a o := by
  obtain ⟨m, m1, m2, m3, m4⟩ := h
  rcases lastL_ok (ksM S a) 0 m with e | ⟨t, t1, t2, t3⟩
  · exact ⟨none, m, m1, m3, m4, Or.inl ⟨e, rfl⟩⟩
  · obtain ⟨q, key, c, q1, q2⟩ := m4 t t1
    have ek : key = 0 := by rw [← q2.ks, t2]
    subst ek
    exact ⟨_, m, m1, m3, m4, Or.inr ⟨q, t, c, t1, t3, q2, rfl⟩⟩
theorem JF_cd {cd cd' : Nat → Int32} {c : Nat} {l r ch : Int32} (h : ∀ i, i < c → cd i = cd' i) : JF (some (cd, c)) l r ch = JF (some (cd', c)) l r ch := by
  unfold JF
  dsimp only
  rw [evF_cd c 0 0 (fun _ => 0) (fun i _ hi => h i (by omega))]
/-- the row a copied to the row a' -/
theorem MWr.cp {ln : Nat → Nat} {N : Nat} {S S' : HC} {b b' a a' : Nat} {o : Option ((Nat → Int32) × Nat)} (h : MWr ln N S b a o) (h1 : ∀ r k, 91 ≤ r → hI S' r k = hI S r k) (h2 : ∀ r k, 91 ≤ r → hR S' r k = hR S r k) (h3 : ∀ k, k < 1461 → hI S' a' k = hI S a k) (h6 : ∀ k, k < 14 → hR S' (b' + 7) k = hR S (b + 7) k) : ∃ o', MWr ln N S' b' a' o' ∧ ∀ l r ch, JF o' l r ch = JF o l r ch := by
  obtain ⟨m, m1, m2, m3, m4⟩ := h
  have ks : ∀ t, t < m → ksM S' a' t = ksM S a t := fun t ht => by unfold ksM; rw [h3 _ (by omega)]
  have e4 : hI S' a' 4 = nI m := by rw [h3 4 (by omega)]; exact m2
  have lk : ∀ i, i ≤ m → lastL (ksM S' a') 0 i = lastL (ksM S a) 0 i := by
    intro i
    induction i with
    | zero => intro _; rw [lastL, lastL]
    | succ i ih =>
      intro hi
      have e1 := ks i (by omega)
      have e2 := ih (by omega)
      show (if ksM S' a' i = 0 then nI i else lastL (ksM S' a') 0 i) = (if ksM S a i = 0 then nI i else lastL (ksM S a) 0 i)
      rw [e1, e2]
  have m3' : ∀ t, t < m → ∃ q key c, hR S' (b' + 7) t = some q ∧ LAW ln N S' q a' t key c := fun t ht => by
    obtain ⟨q, key, c, q1, q2⟩ := m3 t ht
    exact ⟨q, key, c, by rw [h6 t (by omega)]; exact q1, q2.cp (by omega) h1 h2 h3⟩
  rcases m4 with ⟨u1, u2⟩ | ⟨q, t, c, t1, t2, t3, t4⟩
  · exact ⟨none, ⟨m, m1, e4, m3', Or.inl ⟨by rw [lk m (Nat.le_refl _)]; exact u1, rfl⟩⟩, fun l r ch => by rw [u2]⟩
  · refine ⟨_, ⟨m, m1, e4, m3', Or.inr ⟨q, t, c, t1, by rw [lk m (Nat.le_refl _)]; exact t2, t3.cp (by omega) h1 h2 h3, rfl⟩⟩, fun l r ch => ?_⟩
    rw [t4]
    have hc := t3.2.2.1.2.2
    exact JF_cd (fun i hi => h3 _ (by omega))
theorem ptH_jo {n : Nat} {f : Nat → Nat → Int32} {o o' : Option ((Nat → Int32) × Nat)} {ch : Int32} {T : Nat → Int32} {i : Nat} (h : ∀ l r ch, JF o' l r ch = JF o l r ch) : ptH n f o' ch T i = ptH n f o ch T i := by
  unfold ptH
  simp only [h]
theorem ptT_jo {n : Nat} {f : Nat → Nat → Int32} {o o' : Option ((Nat → Int32) × Nat)} {ch : Int32} (h : ∀ l r ch, JF o' l r ch = JF o l r ch) : ∀ i, ptT n f o' ch i = ptT n f o ch i := by
  intro i
  induction i with
  | zero => rfl
  | succ i ih =>
    rw [ptT, ptT, ih]
    unfold pt1
    rw [ptH_jo h]
/-- what the class changes while it checks -/
def CS (S S' : HC) : Prop := (∀ r k, ¬ (17 ≤ r ∧ r ≤ 28) → hI S' r k = hI S r k) ∧ hI S' 17 11 = hI S 17 11 ∧ ∀ r k, ¬ (r = 25 ∧ (k = 3 ∨ k = 4)) → hR S' r k = hR S r k
theorem CS.rf (S : HC) : CS S S := ⟨fun _ _ _ => rfl, rfl, fun _ _ _ => rfl⟩
theorem CS.tr {S S' S'' : HC} (h : CS S S') (h2 : CS S' S'') : CS S S'' := ⟨fun r k u => (h2.1 r k u).trans (h.1 r k u), h2.2.1.trans h.2.1, fun r k u => (h2.2.2 r k u).trans (h.2.2 r k u)⟩
theorem CS.sm {S S' : HC} (h : CS S S') : Sm S S' := ⟨fun r k u => h.1 r k (fun v => u (by unfold sc; omega)), fun r k u _ _ => h.2.2 r k u⟩
theorem XS.cs {S S' : HC} (h : XS 17 S S') : CS S S' := ⟨fun r k u => h.1 r k (by omega), h.2.1, fun r k _ => h.2.2 r k⟩
theorem look_cs {S S' : HC} (e1 : ∀ r k, ¬ (r = 25 ∧ k = 5) → hI S' r k = hI S r k) (e2 : ∀ r k, ¬ (r = 25 ∧ (k = 3 ∨ k = 4)) → hR S' r k = hR S r k) : CS S S' := ⟨fun r k u => e1 r k (by omega), e1 _ _ (by omega), e2⟩
theorem wo_cs {S S' : HC} (e1 : ∀ q k, q ≠ 26 → q ≠ 28 → hI S' q k = hI S q k) (e2 : ∀ q k, hR S' q k = hR S q k) : CS S S' := ⟨fun r k u => e1 r k (by omega) (by omega), e1 _ _ (by decide) (by decide), fun r k _ => e2 r k⟩
def stA (fe : Int32) (A : LA) : LA := (yN A.1 A.2.1 fe A.2.2, yF A.1 A.2.1 fe A.2.2, yZ A.1 A.2.1 fe A.2.2)
/-- what all of a land bear of the charge 0 -/
def bA (o : Option ((Nat → Int32) × Nat)) (A : LA) : Int32 := sumB A.2.1 (ptT A.1 A.2.1 o (nI 0) A.1) 0 A.1
def ckF (fe : Int32) (o : Option ((Nat → Int32) × Nat)) (w : Nat) (V : Nat → Int32) : Nat → Nat → LA → Int32
  | 0, i, _ => if 2 * i = w then 0 else nI (1 + 2 * i)
  | m + 1, i, A => if 2 * i < w ∧ V (2 * i) = nI (stA fe A).1 then (if 2 * i + 1 < w ∧ V (2 * i + 1) = bA o (stA fe A) then ckF fe o w V m (i + 1) (stA fe A) else nI (1 + (2 * i + 1))) else nI (1 + 2 * i)
theorem p_isWait {ln : Nat → Nat} {S : HC} {r w : Nat} {V : Nat → Int32} {v : Int32} {post : Int32 → HC → Prop} (hs : SH S) (hl : LN ln) (hw : w ≤ 60) (hr : r < 1000) (hV : ∀ j, j < w → hI S 43 j = V j) (h1 : r < w ∧ V r = v → post 1 S) (h0 : ¬ (r < w ∧ V r = v) → post 0 S) : wpX7_isWaiting ln S 0 (nI r) (nI w) v post := by
  unfold wpX7_isWaiting BX7_isWaiting_29
  rw [if_neg (nI_pos (by omega)), rb_e0, rb_e1]
  by_cases q : r < w
  · rw [if_neg (nI_ge q (by omega)), if_neg (show ¬ (60 : Int32) ≤ nI r from nI_ge (b := 60) (by omega) (by decide)), sh0_8 hs, dn_e, ln43 hl, al_e (by omega) (by decide), hV r q]
    by_cases q2 : V r = v
    · rw [if_pos q2]; exact h1 ⟨q, q2⟩
    · rw [if_neg q2]; exact h0 (fun u => q2 u.2)
  · rw [if_pos (nI_le (by omega) (by omega))]; exact h0 (fun u => q u.1)
theorem p_xcheck {ln : Nat → Nat} {N : Nat} {S0 : HC} {fe : Int32} {o : Option ((Nat → Int32) × Nat)} {w sp mm : Nat} {V : Nat → Int32} {post : Int32 → HC → Prop} (hs0 : SH S0) (hl : LN ln) (hw : w ≤ 60) (hsp : sp ≤ 30) (hV : ∀ j, j < w → hI S0 43 j = V j) (m1 : mm ≤ 14) (m2 : hI S0 17 11 = nI mm) (m3 : hI S0 70 4 = nI mm) (m4 : ∀ t, t < mm → ∃ q key c, hR S0 (17 + 7) t = some q ∧ LAW ln N S0 q 70 t key c) (ho : MWr ln N S0 17 70 o) : ∀ (m i : Nat) (ye : Int32) (A : LA) (S : HC), i + m = sp → CS S0 S → A.1 ≤ 14 → VP A.1 A.2.1 → XA S 17 A.1 A.2.1 fe ye A.2.2 → (∀ S', CS S0 S' → post (ckF fe o w V m i A) S') → LX7_check_68 ln post (m + 1) S 0 (nI w) (nI sp) (nI (2 * i)) (nI i) := by
  have hb : LB 17 := Or.inr (Or.inr (Or.inl rfl))
  intro m
  induction m with
  | zero =>
    intro i ye A S hi hc h14 hv hx h
    rw [LX7_check_68]
    dsimp only
    rw [if_pos (nI_le (by omega) (by omega))]
    have q := h S hc
    rw [ckF] at q
    by_cases e : 2 * i = w
    · rw [if_pos e] at q
      rw [if_pos (by rw [e])]; exact q
    · rw [if_neg e] at q
      rw [if_neg (fun u => e ((nI_eq (by omega) (by omega)).mp u)), lt_e, show (1 : Int32) + nI (2 * i) = nI (1 + 2 * i) from nI_add 1 _]; exact q
  | succ m ih =>
    intro i ye A S hi hc h14 hv hx h
    have hs := hs0.sm hc.sm
    rw [LX7_check_68]
    dsimp only
    rw [if_neg (nI_ge (by omega) (by omega)), sh0_3 hs, dn_e]
    refine p_pass hs hl hb hx h14 (fun S1 hx1 hd1 => ?_)
    have c1 := hc.tr hd1.cs
    have hs1 := hs0.sm c1.sm
    obtain ⟨l1, l2, l3⟩ := yN_le (f := A.2.1) (fe := fe) (z := A.2.2) h14
    have hv1 := yF_ok (fe := fe) (z := A.2.2) hv
    rw [sh0_3 hs1, dn_e, lt_e, hx1.1]
    rw [ckF] at h
    refine p_isWait (V := V) hs1 hl hw (by omega) (fun j hj => by rw [c1.1 _ _ (by omega)]; exact hV j hj) (fun q => ?_) (fun q => ?_)
    · rw [if_pos (show 2 * i < w ∧ V (2 * i) = nI (stA fe A).1 from q)] at h
      rw [if_neg (by decide), lt_e, nI_1, sh0_3 hs1, dn_e]
      unfold wpX7_allBear
      rw [sh0_4 hs1, dn_e]
      have t4 : ∀ t, t < mm → ∃ q key c, hR S1 (17 + 7) t = some q ∧ LAW ln N S1 q 70 t key c := fun t ht => by
        obtain ⟨q, key, c, q1, q2⟩ := m4 t ht
        exact ⟨q, key, c, by rw [c1.2.2 _ _ (by omega)]; exact q1, q2.ag (fun r k u => c1.1 r k (by omega)) (fun r k u => c1.2.2 r k (by omega)) (fun k _ => c1.1 _ _ (by omega))⟩
      refine p_look3 (am := 70) hs1 hl hb (Or.inr rfl) hx1.1 hx1.2.1 l1 m1 (by rw [c1.2.1]; exact m2) (by rw [c1.1 _ _ (by omega)]; exact m3) t4 (fun S2 o2 k2 w2 g1 g2 => ?_)
      have c2 := c1.tr (look_cs g1 g2)
      have hs2 := hs0.sm c2.sm
      have eo : o2 = o := w2.uq (ho.ag (fun k _ => c2.1 _ _ (by omega)) (fun r k u => c2.1 r k (by omega)) (fun r k u => c2.2.2 r k (by omega)))
      subst eo
      rw [sh0_4 hs2, dn_e]
      refine p_workOut (ch := 0) hs2 hl hb k2 hv1 l1 (by decide) (fun S3 w3 => ?_)
      have c3 := c2.tr (wo_cs w3.1 w3.2.2.2)
      have hs3 := hs0.sm c3.sm
      rw [sh0_4 hs3, dn_e]
      refine p_together (ch := 0) hs3 hl hb (k2.ag hb w3.1 w3.2.2.2) l1 (by decide) w3.2.2.1 ?_
      refine p_isWait (V := V) hs3 hl hw (by omega) (fun j hj => by rw [c3.1 _ _ (by omega)]; exact hV j hj) (fun q2 => ?_) (fun q2 => ?_)
      · rw [if_pos (show 2 * i + 1 < w ∧ V (2 * i + 1) = bA o2 (stA fe A) from q2)] at h
        rw [if_neg (by decide), lt_e, nI_1, lt_e, nI_1]
        refine ih (i + 1) _ (stA fe A) S3 (by omega) c3 l1 hv1 (hx1.ag (fun r k u1 u2 => ?_)) h
        rw [w3.1 _ _ (by omega) (by omega), g1 _ _ (by omega)]
      · rw [if_neg (show ¬ (2 * i + 1 < w ∧ V (2 * i + 1) = bA o2 (stA fe A)) from q2)] at h
        rw [if_pos rfl, lt_e, show (1 : Int32) + nI (2 * i + 1) = nI (1 + (2 * i + 1)) from nI_add 1 _]
        exact h S3 c3
    · rw [if_neg (show ¬ (2 * i < w ∧ V (2 * i) = nI (stA fe A).1) from q)] at h
      rw [if_pos rfl, lt_e, show (1 : Int32) + nI (2 * i) = nI (1 + 2 * i) from nI_add 1 _]
      exact h S1 c1
