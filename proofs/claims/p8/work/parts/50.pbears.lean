/-! shields: looked at; steps bears, sixteenth -/
theorem p_lookAt {ln : Nat → Nat} {N : Nat} {S : HC} {b n m : Nat} {f : Nat → Nat → Int32} {post : HC → Prop} (hs : SH S) (hl : LN ln) (hb : LB b) (hn : hI S b 6 = nI n) (hf : AG n (xf S b) f) (h14 : n ≤ 14) (hm1 : hI S 69 1 = nI n) (hm2 : AG n (mf S 69) f) (m1 : m ≤ 14) (m2 : hI S b 11 = nI m) (m3 : hI S 69 4 = nI m) (m4 : ∀ t, t < m → ∃ q key c, hR S (b + 7) t = some q ∧ LAW ln N S q 69 t key c) (h : ∀ S' o, LK ln N S' b n f o → MK ln N S' b n f o → (∀ r k, ¬ (r = 25 ∧ k = 5) → hI S' r k = hI S r k) → (∀ r k, ¬ (r = 25 ∧ (k = 3 ∨ k = 4)) → hR S' r k = hR S r k) → post S') : wpX4_lookAt ln S 25 b post := by
  have b25 : ∀ i, i ≤ 7 → b + i ≠ 25 := fun i hi => by rcases hb with rfl | rfl | rfl | rfl <;> omega
  unfold wpX4_lookAt
  rw [lt_e]
  have hs1 : SH (sR S 25 3 (some b)) := hs.sR _ (by decide)
  have la : ∀ {S' : HC} {q t key c}, (∀ r k, ¬ (r = 25 ∧ k = 5) → hI S' r k = hI S r k) → (∀ r k, ¬ (r = 25 ∧ (k = 3 ∨ k = 4)) → hR S' r k = hR S r k) → LAW ln N S q 69 t key c → LAW ln N S' q 69 t key c := fun e1 e2 u => u.ag (fun r k v => e1 r k (by omega)) (fun r k v => e2 r k (by omega)) (fun k _ => e1 _ _ (by omega))
  have r1 : ∀ r k, ¬ (r = 25 ∧ (k = 3 ∨ k = 4)) → hR (sR S 25 3 (some b)) r k = hR S r k := fun r k u => by rw [hR_sR, if_neg (by omega)]
  have w1 : ∀ t, t < m → ∃ q key c, hR (sR S 25 3 (some b)) (b + 7) t = some q ∧ LAW ln N (sR S 25 3 (some b)) q 69 t key c := fun t ht => by
    obtain ⟨q, key, c, q1, q2⟩ := m4 t ht
    exact ⟨q, key, c, by rw [r1 _ _ (by have := b25 7 (by decide); omega)]; exact q1, la (fun _ _ _ => rfl) r1 q2⟩
  have fin : ∀ (oq : Option Nat) (o : Option ((Nat → Int32) × Nat)), ((oq = none ∧ o = none ∧ lastL (ksM S 69) 0 m = -1) ∨ ∃ q t c, oq = some q ∧ t < m ∧ lastL (ksM S 69) 0 m = nI t ∧ LAW ln N S q 69 t 0 c ∧ o = some (fun i => hI S 69 (117 + 96 * t + i), c)) → lt_ (sR (sR S 25 3 (some b)) 25 4 oq) fun S => wpX0_heiresses ln S b fun z2 S => lt_ (sI S 25 5 z2) fun S => post S := fun oq o ho => by
    rw [lt_e]
    have hs2 : SH (sR (sR S 25 3 (some b)) 25 4 oq) := hs1.sR _ (by decide)
    refine p_heiresses hs2 hl hb hn hf h14 ?_
    rw [lt_e]
    have e1 : ∀ r k, ¬ (r = 25 ∧ k = 5) → hI (sI (sR (sR S 25 3 (some b)) 25 4 oq) 25 5 (herB n f n)) r k = hI S r k := fun r k u => by rw [hI_ne u]; rfl
    have e2 : ∀ r k, ¬ (r = 25 ∧ (k = 3 ∨ k = 4)) → hR (sI (sR (sR S 25 3 (some b)) 25 4 oq) 25 5 (herB n f n)) r k = hR S r k := fun r k u => by rw [hR_sI, hR_sR, if_neg (by omega), r1 r k u]
    refine h _ o ⟨?_, hI_self _ _ _ _, by rw [e1 _ _ (by have := b25 0 (by decide); omega)]; exact hn, fun k hk j hj => ?_, ?_⟩ ⟨by rw [e1 _ _ (by omega)]; exact hm1, fun k hk j hj => ?_, m, m1, by rw [e1 _ _ (by omega)]; exact m3, fun t ht => ?_, ?_⟩ e1 e2
    · rw [hR_sI, hR_sR, if_neg (by decide), hR_sR, if_pos ⟨rfl, rfl⟩]
    · rw [← hf k hk j hj]
      exact e1 _ _ (by have := b25 (1 + k) (by omega); omega)
    · have e4 : hR (sI (sR (sR S 25 3 (some b)) 25 4 oq) 25 5 (herB n f n)) 25 4 = oq := by rw [hR_sI, hR_sR, if_pos ⟨rfl, rfl⟩]
      rw [e4]
      rcases ho with ⟨u1, u2, -⟩ | ⟨q, t, c, u1, u2, u3, u4, u5⟩
      · exact Or.inl ⟨u1, u2⟩
      · refine Or.inr ⟨q, t, c, 69, Or.inl rfl, u1, la e1 e2 u4, ?_⟩
        rw [u5]
        congr 2
    · rw [← hm2 k hk j hj]
      exact e1 _ _ (by omega)
    · obtain ⟨q, key, c, q1, q2⟩ := m4 t ht
      exact ⟨q, key, c, by rw [e2 _ _ (by have := b25 7 (by decide); omega)]; exact q1, la e1 e2 q2⟩
    · have ks : ksM (sI (sR (sR S 25 3 (some b)) 25 4 oq) 25 5 (herB n f n)) 69 = ksM S 69 := by funext t; unfold ksM; rw [e1 _ _ (by omega)]
      rw [ks]
      rcases ho with ⟨u1, u2, u3⟩ | ⟨q, t, c, u1, u2, u3, u4, u5⟩
      · exact Or.inl ⟨u3, u2⟩
      · refine Or.inr ⟨q, t, c, u2, u3, la e1 e2 u4, ?_⟩
        rw [u5]
        congr 2
  have ks1 : ksM (sR S 25 3 (some b)) 69 = ksM S 69 := rfl
  refine p_lawFor (key := 0) (a := 69) hs1 hl hb (by decide) m1 m2 w1 (fun e => ?_) (fun t q c t1 t3 q1 q2 => ?_)
  · exact fin none none (Or.inl ⟨rfl, rfl, e⟩)
  · exact fin (some q) (some (fun i => hI S 69 (117 + 96 * t + i), c)) (Or.inr ⟨q, t, c, rfl, t1, t3, q2.ag (fun _ _ _ => rfl) (fun r k v => (r1 r k (by omega)).symm) (fun _ _ => rfl), rfl⟩)
/-- what one shows of a charge -/
def shV (f : Nat → Nat → Int32) (T : Nat → Int32) (ch p : Nat) : Int32 := if (f 5 p >>> (nI ch &&& 31)) &&& 1 = 1 then 0 else T p
theorem p_shown {ln : Nat → Nat} {N : Nat} {S : HC} {b n ch p : Nat} {f : Nat → Nat → Int32} {o : Option ((Nat → Int32) × Nat)} {T : Nat → Int32} {post : Int32 → HC → Prop} (hs : SH S) (hl : LN ln) (hb : LB b) (hk : LK ln N S b n f o) (h14 : n ≤ 14) (hc : ch < 8) (hp : p < n) (hT : hI S 26 (14 * ch + p) = T p) : wpX4_shown ln S 25 (nI p) (nI ch) post = post (shV f T ch p) S := by
  unfold wpX4_shown BX4_shown_28 shV
  rw [hk.1, dn_e, p_has, hasT hk.2.2.1 h14 hp, if_neg (by decide), hk.1, dn_e, lb_r hs hb (i := 5) (by decide), dn_e, lb_n hl hb (i := 5) (by decide), al_e (by omega) (by decide), lt_e, lt_e, show hI S (b + 1 + 5) p = f 5 p from hk.2.2.2.1 5 (by decide) p hp]
  by_cases u : (f 5 p >>> (nI ch &&& 31)) &&& 1 = 1
  · rw [if_pos u, if_pos u]
  · rw [if_neg u, if_neg u, p_hidden hs hl hk.1 hk.2.2.1 h14 hp hc, hT]
theorem p_borne {ln : Nat → Nat} {N : Nat} {S : HC} {b n ch p : Nat} {f : Nat → Nat → Int32} {o : Option ((Nat → Int32) × Nat)} {T : Nat → Int32} {post : Int32 → HC → Prop} (hs : SH S) (hl : LN ln) (hk : MK ln N S b n f o) (h14 : n ≤ 14) (hc : ch < 8) (hp : p < n) (hT : hI S 72 (8 * p + ch) = T p) : wpX8_borne ln S 68 (nI p) (nI ch) post = post (shV f T ch p) S := by
  unfold wpX8_borne shV
  rw [p_of5 hs hl (by omega), hk.2.1 5 (by decide) p hp, lt_e, lt_e]
  by_cases u : (f 5 p >>> (nI ch &&& 31)) &&& 1 = 1
  · rw [if_pos u, if_pos u]
  · rw [if_neg u, if_neg u, sh68_4 hs, dn_e, lt_e, lt_e, show (8 : Int32) * nI p = nI (8 * p) from pk_mul 8 p, nI_add, ln72 hl, al_e (by omega) (by decide), hT]
theorem LK.sm {ln : Nat → Nat} {N : Nat} {S S' : HC} {b n : Nat} {f : Nat → Nat → Int32} {o : Option ((Nat → Int32) × Nat)} (h : LK ln N S b n f o) (hb : LB b) (e : MC S S') : LK ln N S' b n f o := by
  obtain ⟨a1, a2, a3, a4, a5⟩ := h
  have bb : ∀ i, i ≤ 6 → b + i < 72 := fun i hi => by rcases hb with rfl | rfl | rfl | rfl <;> omega
  refine ⟨by rw [e.2]; exact a1, by rw [e.1 _ _ (by decide) (by decide) (by decide)]; exact a2, by rw [e.1 b 6 (by have := bb 0 (by decide); omega) (by have := bb 0 (by decide); omega) (by have := bb 0 (by decide); omega)]; exact a3, fun k hk j hj => ?_, ?_⟩
  · rw [← a4 k hk j hj]
    exact e.1 _ _ (by have := bb (1 + k) (by omega); omega) (by have := bb (1 + k) (by omega); omega) (by have := bb (1 + k) (by omega); omega)
  · rcases a5 with ⟨e1, e2⟩ | ⟨q, t, c, am, ham, e1, e2, e3⟩
    · exact Or.inl ⟨by rw [e.2]; exact e1, e2⟩
    · refine Or.inr ⟨q, t, c, am, ham, by rw [e.2]; exact e1, e2.ag (fun r k u => e.1 r k (by omega) (by omega) (by omega)) (fun r k _ => e.2 r k) (fun k _ => e.1 _ _ (by omega) (by omega) (by omega)), ?_⟩
      rw [e3]
      congr 2
      funext i
      exact (e.1 _ _ (by omega) (by omega) (by omega)).symm
theorem MK.wo {ln : Nat → Nat} {N : Nat} {S S' : HC} {b n : Nat} {f : Nat → Nat → Int32} {o : Option ((Nat → Int32) × Nat)} (h : MK ln N S b n f o) (h1 : ∀ q k, q ≠ 26 → q ≠ 28 → hI S' q k = hI S q k) (h2 : ∀ q k, hR S' q k = hR S q k) : MK ln N S' b n f o := by
  obtain ⟨a1, a2, m, m1, m2, m3, m4⟩ := h
  have e69 : ∀ k, hI S' 69 k = hI S 69 k := fun k => h1 _ _ (by decide) (by decide)
  have ks : ksM S' 69 = ksM S 69 := by funext t; unfold ksM; rw [e69]
  have la : ∀ {q t key c}, LAW ln N S q 69 t key c → LAW ln N S' q 69 t key c := fun u => u.ag (fun r k v => h1 r k (by omega) (by omega)) (fun r k _ => h2 r k) (fun k _ => e69 k)
  refine ⟨by rw [e69]; exact a1, fun k hk j hj => ?_, m, m1, by rw [e69]; exact m2, fun t ht => ?_, ?_⟩
  · rw [← a2 k hk j hj]; exact e69 _
  · obtain ⟨q, key, c, q1, q2⟩ := m3 t ht
    exact ⟨q, key, c, by rw [h2]; exact q1, la q2⟩
  · rw [ks]
    rcases m4 with u | ⟨q, t, c, u1, u2, u3, u4⟩
    · exact Or.inl u
    · refine Or.inr ⟨q, t, c, u1, u2, la u3, ?_⟩
      rw [u4]
      congr 2
      funext i
      exact (e69 _).symm
theorem s_bears {N : Nat} {ln : Nat → Nat} {S : HC} (h : PI N ln S) (a1 a2 : Int32) : wpX7_bears ln S 0 a1 a2 fun v S => wpX8_bears ln S 68 a1 a2 fun w S => OK N ln v w S := by
  obtain ⟨⟨hs, hl, -, -⟩, ⟨⟨n, hn⟩, m, m1, m2, m3, m4⟩, -⟩ := id h
  have h14 := hn.1
  have hv := hn.2.2.2.2.1
  unfold wpX7_bears BX7_bears_18
  rw [sh0_0 hs, dn_e, p_has]
  rcases i_in a1 n (by omega) with ⟨p, hp, rfl⟩ | hx
  · rw [hasT hn.2.1 h14 hp, if_neg (by decide), p_isCharge]
    by_cases c : 0 ≤ a2 ∧ a2 < 8
    · obtain ⟨ch, hc, rfl⟩ := ge_of (n := 8) (by decide) c
      rw [bI_t c, if_neg (by decide), sh0_4 hs, dn_e, sh0_0 hs, dn_e]
      refine p_lookAt (n := n) (m := m) (f := mf S 69) hs hl (Or.inl rfl) hn.2.1 hn.2.2.2.1 h14 hn.2.2.1 (fun _ _ _ _ => rfl) m1 m2 m3 m4 (fun S1 o k1 k2 e1 e2 => ?_)
      have s1 : Sm S S1 := ⟨fun r k u => e1 r k (fun v => u (by unfold sc; omega)), fun r k u _ _ => e2 r k u⟩
      have hs1 := hs.sm s1
      rw [sh0_4 hs1, dn_e]
      refine p_workOut hs1 hl (Or.inl rfl) k1 hv h14 hc (fun S2 w2 => ?_)
      have s2 : Sm S1 S2 := ⟨fun r k u => w2.1 r k (fun v => u (by unfold sc; omega)) (fun v => u (by unfold sc; omega)), fun r k _ _ _ => w2.2.2.2 r k⟩
      have hs2 := hs1.sm s2
      rw [sh0_4 hs2, dn_e, p_shown hs2 hl (Or.inl rfl) (k1.ag (Or.inl rfl) w2.1 w2.2.2.2) h14 hc hp (w2.2.2.1 p hp)]
      unfold wpX8_bears BX8_bears_15
      dsimp only
      have k2' := k2.wo w2.1 w2.2.2.2
      rw [p_isOne hs2 hl, oneT k2'.1 h14 hp, if_neg (by decide), p_mCharge, chE, bI_t c, if_neg (by decide)]
      refine p_worksOf hs2 hl k2' hv h14 hc (fun S3 w3 => ?_)
      rw [p_borne (w3.1.sh hs2) hl (k2'.ag w3.1) h14 hc hp (w3.2.1 p hp)]
      exact ⟨rfl, h.sm ((s1.tr s2).tr w3.1.sm)⟩
    · rw [bI_f c, if_pos rfl]
      unfold wpX8_bears BX8_bears_15
      dsimp only
      rw [p_isOne hs hl, oneT hn.2.2.1 h14 hp, if_neg (by decide), p_mCharge, chE, bI_f c, if_pos rfl]
      exact ⟨rfl, h⟩
  · rw [hasF hn.2.1 hx, if_pos rfl]
    unfold wpX8_bears BX8_bears_15
    dsimp only
    rw [p_isOne hs hl, oneF hn.2.2.1 h14 hx, if_pos rfl]
    exact ⟨rfl, h⟩
