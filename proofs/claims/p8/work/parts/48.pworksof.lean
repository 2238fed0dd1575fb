/-! shields: the reference's side -/
/-- the reference's land and which law joins; b: the class's land with the same texts -/
def MK (ln : Nat → Nat) (N : Nat) (S : HC) (b n : Nat) (f : Nat → Nat → Int32) (o : Option ((Nat → Int32) × Nat)) : Prop := hI S 69 1 = nI n ∧ AG n (mf S 69) f ∧ ∃ m, m ≤ 14 ∧ hI S 69 4 = nI m ∧ (∀ t, t < m → ∃ q key c, hR S (b + 7) t = some q ∧ LAW ln N S q 69 t key c) ∧ ((lastL (ksM S 69) 0 m = -1 ∧ o = none) ∨ ∃ q t c, t < m ∧ lastL (ksM S 69) 0 m = nI t ∧ LAW ln N S q 69 t 0 c ∧ o = some (fun i => hI S 69 (117 + 96 * t + i), c))
def MC (S S' : HC) : Prop := (∀ q k, q ≠ 72 → q ≠ 80 → q ≠ 81 → hI S' q k = hI S q k) ∧ ∀ q k, hR S' q k = hR S q k
theorem MC.rf (S : HC) : MC S S := ⟨fun _ _ _ _ _ => rfl, fun _ _ => rfl⟩
theorem MC.tr {S S' S'' : HC} (h : MC S S') (h2 : MC S' S'') : MC S S'' := ⟨fun q k u1 u2 u3 => (h2.1 q k u1 u2 u3).trans (h.1 q k u1 u2 u3), fun q k => (h2.2 q k).trans (h.2 q k)⟩
theorem MC.sh {S S' : HC} (h : MC S S') (hs : SH S) : SH S' := hs.of (fun _ _ => h.2 _ _)
theorem MC.sm {S S' : HC} (h : MC S S') : Sm S S' := ⟨fun r k u => h.1 r k (fun e => u (by unfold sc; omega)) (fun e => u (by unfold sc; omega)) (fun e => u (by unfold sc; omega)), fun r k _ _ _ => h.2 r k⟩
theorem MK.ag {ln : Nat → Nat} {N : Nat} {S S' : HC} {b n : Nat} {f : Nat → Nat → Int32} {o : Option ((Nat → Int32) × Nat)} (h : MK ln N S b n f o) (e : MC S S') : MK ln N S' b n f o := by
  obtain ⟨a1, a2, m, m1, m2, m3, m4⟩ := h
  have e69 : ∀ k, hI S' 69 k = hI S 69 k := fun k => e.1 _ _ (by decide) (by decide) (by decide)
  have ks : ksM S' 69 = ksM S 69 := by funext t; unfold ksM; rw [e69]
  have la : ∀ {q t key c}, LAW ln N S q 69 t key c → LAW ln N S' q 69 t key c := fun u => u.ag (fun r k v => e.1 r k (by omega) (by omega) (by omega)) (fun r k _ => e.2 r k) (fun k _ => e69 k)
  refine ⟨by rw [e69]; exact a1, fun k hk j hj => ?_, m, m1, by rw [e69]; exact m2, fun t ht => ?_, ?_⟩
  · rw [← a2 k hk j hj]; exact e69 _
  · obtain ⟨q, key, c, q1, q2⟩ := m3 t ht
    exact ⟨q, key, c, by rw [e.2]; exact q1, la q2⟩
  · rw [ks]
    rcases m4 with u | ⟨q, t, c, u1, u2, u3, u4⟩
    · exact Or.inl u
    · refine Or.inr ⟨q, t, c, u1, u2, la u3, ?_⟩
      rw [u4]
      congr 2
      funext i
      exact (e69 _).symm
theorem p_mjoined {ln : Nat → Nat} {N : Nat} {S : HC} {b n ch : Nat} {f : Nat → Nat → Int32} {o : Option ((Nat → Int32) × Nat)} {l r : Int32} {post : Int32 → HC → Prop} (hs : SH S) (hl : LN ln) (hk : MK ln N S b n f o) (h1 : V64 l) (h2 : V64 r) (h : ∀ S', MC S S' → (∀ k, hI S' 72 k = hI S 72 k) → post (JF o l r (nI ch)) S') : wpX8_joined ln S 68 l r (nI ch) post := by
  obtain ⟨a1, a2, m, m1, m2, m3, m4⟩ := id hk
  unfold wpX8_joined
  refine p_counts (key := 0) hs hl (by decide) m1 m2 m3 ?_
  rw [sh68_23 hs, dn_e, ln81 hl, as_l0 (by decide) (by decide), sh68_23 (hs.sI _ _ _), dn_e, ln81 hl, as_l1 (by decide) (by decide), sh68_23 ((hs.sI _ _ _).sI _ _ _), dn_e, ln81 hl, as_l2 (by decide) (by decide)]
  have c1 : MC S (sI (sI (sI S 81 0 l) 81 1 r) 81 2 (nI ch)) := ⟨fun q k _ _ u => by rw [hI_row u, hI_row u, hI_row u], fun _ _ => rfl⟩
  rcases m4 with ⟨e1, e2⟩ | ⟨q, t, c, u1, u2, u3, u4⟩
  · rw [e1, if_neg (by decide), lt_e, ne_e (by decide), lt_e]
    have k := h _ c1 (fun k => by rw [hI_row (by decide), hI_row (by decide), hI_row (by decide)])
    rw [e2] at k
    unfold JF at k
    dsimp only at k
    rw [cl64_id (half_ok h1 h2)] at k
    exact k
  · rw [u2, if_pos (nI_pos' (by omega))]
    have u5 : LAW ln N (sI (sI (sI S 81 0 l) 81 1 r) 81 2 (nI ch)) q 69 t 0 c := u3.ag (fun r k v => c1.1 r k (by omega) (by omega) (by omega)) (fun r k _ => rfl) (fun k _ => c1.1 _ _ (by decide) (by decide) (by decide))
    refine p_worksOut (a := l) (b := r) (e := nI ch) (((hs.sI _ _ _).sI _ _ _).sI _ _ _) hl (by omega) u5 (by rw [hI_ne (by decide), hI_ne (by decide), hI_self]) (by rw [hI_ne (by decide), hI_self]) (fun _ => hI_self _ _ _ _) (fun S3 x3 => ?_)
    rw [p_mwithin]
    have k := h S3 (c1.tr ⟨fun q k _ v _ => x3.2.1 q k v, x3.2.2⟩) (fun k => by rw [x3.2.1 _ _ (by decide), hI_row (by decide), hI_row (by decide), hI_row (by decide)])
    rw [u4] at k
    have ec : (fun i => hI (sI (sI (sI S 81 0 l) 81 1 r) 81 2 (nI ch)) 69 (117 + 96 * t + i)) = fun i => hI S 69 (117 + 96 * t + i) := by
      funext i; exact c1.1 _ _ (by decide) (by decide) (by decide)
    rw [ec]
    have ev : evF l r (nI ch) (fun i => hI S 69 (117 + 96 * t + i)) c 0 (hI (sI (sI (sI S 81 0 l) 81 1 r) 81 2 (nI ch)) 80) 0 0 = evF l r (nI ch) (fun i => hI S 69 (117 + 96 * t + i)) c 0 (fun _ => 0) 0 0 := evF_ag c 0 0 1 _ _ u3.2.2.2.2.2.2.2.1 (fun j hj => absurd hj (by omega)) 0 (by decide)
    rw [ev]
    exact k
theorem p_childOf {ln : Nat → Nat} {N : Nat} {S : HC} {b n ch p : Nat} {f : Nat → Nat → Int32} {o : Option ((Nat → Int32) × Nat)} {mo : Int32} {T : Nat → Int32} {post : Int32 → HC → Prop} (hs : SH S) (hl : LN ln) (hk : MK ln N S b n f o) (hv : VP n f) (h14 : n ≤ 14) (hc : ch < 8) (hp : p < n) (hm : mo = -1 ∨ ∃ m, m < n ∧ mo = nI m ∧ hI S 72 (8 * m + ch) = T m ∧ V64 (T m)) (hT : hI S 72 (8 * p + ch) = T p) (hT2 : V64 (T p)) (h : ∀ S', MC S S' → (∀ k, hI S' 72 k = hI S 72 k) → post (JF o (T p) (if ¬ mo = -1 ∧ herP n f (ixN mo) then T (ixN mo) else T p) (nI ch)) S') : wpX8_childOf ln S 68 (nI p) mo (nI ch) post := by
  unfold wpX8_childOf BX8_childOf_42 BX8_childOf_44
  rw [sh68_4 hs, dn_e]
  simp only [lt_e]
  rw [show (8 : Int32) * nI p = nI (8 * p) from pk_mul 8 p, nI_add, ln72 hl, al_e (by omega) (by decide), hT]
  rcases hm with rfl | ⟨m, hm, rfl, t1, t2⟩
  · rw [if_pos (by decide)]
    refine p_mjoined hs hl hk hT2 hT2 (fun S' q1 q2 => ?_)
    have k := h S' q1 q2
    rw [if_neg (fun u => u.1 rfl)] at k
    exact k
  · rw [if_neg (nI_pos (by omega))]
    refine p_mHeir hs hl hk.1 hk.2.1 hv h14 hm (fun u => ?_) (fun u => ?_)
    · rw [if_neg (by decide), sh68_4 hs, dn_e, show (8 : Int32) * nI m = nI (8 * m) from pk_mul 8 m, nI_add, ln72 hl, al_e (by omega) (by decide), t1]
      refine p_mjoined hs hl hk hT2 t2 (fun S' q1 q2 => ?_)
      have k := h S' q1 q2
      rw [ixN_e (by omega), if_pos ⟨m1_ne (by omega), u⟩] at k
      exact k
    · rw [if_pos rfl]
      refine p_mjoined hs hl hk hT2 hT2 (fun S' q1 q2 => ?_)
      have k := h S' q1 q2
      rw [ixN_e (by omega), if_neg (fun v => u v.2)] at k
      exact k
