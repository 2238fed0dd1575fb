/-! step: match, on -/
theorem p_mmatch {ln : Nat → Nat} {N : Nat} {S : HC} {b n ch p : Nat} {f : Nat → Nat → Int32} {o : Option ((Nat → Int32) × Nat)} {T : Nat → Int32} {x3 : Int32} {post : Int32 → HC → Prop} (hs : SH S) (hl : LN ln) (hk : MK ln N S b n f o) (hv : VP n f) (h14 : n ≤ 14) (hc : ch < 8) (hp : p < n) (hT : ∀ j, j < n → hI S 72 (8 * j + ch) = T j) (hV : ∀ j, V64 (T j)) (h : ∀ S', MC S S' → post (if 0 ≤ (mtF n f o (nI ch) T p n).1 then (if x3 = 0 then (mtF n f o (nI ch) T p n).1 else (mtF n f o (nI ch) T p n).2) else -1000000005) S') : ∃ k, LX8_match_41 ln post k S 68 (nI p) (nI ch) x3 (-1) (-1) 0 := by
  have key : ∀ m i S', i + m = n → MC S S' → (∀ k, hI S' 72 k = hI S 72 k) → LX8_match_41 ln post (m + 1) S' 68 (nI p) (nI ch) x3 (mtF n f o (nI ch) T p i).1 (mtF n f o (nI ch) T p i).2 (nI i) := by
    intro m
    induction m with
    | zero =>
      intro i S' hi c1 c2
      have e : i = n := by omega
      subst e
      have hs' := c1.sh hs
      rw [LX8_match_41]
      dsimp only
      rw [sh68_0 hs', dn_e, ln69 hl, al_l1 (by decide) (by decide), (hk.ag c1).1, if_pos (nI_le (by omega) (by omega))]
      have k := h S' c1
      by_cases u : 0 ≤ (mtF i f o (nI ch) T p i).1
      · rw [if_pos u] at k ⊢
        by_cases w : x3 = 0
        · rw [if_pos w] at k ⊢; exact k
        · rw [if_neg w] at k ⊢; exact k
      · rw [if_neg u] at k ⊢; exact k
    | succ m ih =>
      intro i S' hi c1 c2
      have hs' := c1.sh hs
      have k' := hk.ag c1
      have step : ∀ S1, MC S S1 → (∀ k, hI S1 72 k = hI S 72 k) → ¬ f 3 i = f 3 p → BX8_match_96 ln post (LX8_match_41 ln post (m + 1)) S1 68 (nI p) (nI ch) x3 (mtF n f o (nI ch) T p i).1 (mtF n f o (nI ch) T p i).2 (nI i) (mV n f o (nI ch) T p i) := fun S1 r1 r2 ne => by
        have k := ih (i + 1) S1 (by omega) r1 r2
        rw [mtF, if_neg ne] at k
        unfold BX8_match_96 BX8_match_112 BX8_match_128 BX8_match_130
        by_cases w : mV n f o (nI ch) T p i ≤ (mtF n f o (nI ch) T p i).2
        · rw [if_pos w] at k
          rw [if_pos w, if_pos w, lt_e, nI_1]; exact k
        · rw [if_neg w] at k
          rw [if_neg w, if_neg w, lt_e, nI_1]; exact k
      rw [LX8_match_41]
      dsimp only
      rw [sh68_0 hs', dn_e, ln69 hl, al_l1 (by decide) (by decide), k'.1, if_neg (nI_ge (by omega) (by omega)), p_of3 hs' hl (by omega), p_of3 hs' hl (by omega), k'.2.1 3 (by decide) i (by omega), k'.2.1 3 (by decide) p hp]
      by_cases e : f 3 i = f 3 p
      · rw [if_pos e]
        unfold BX8_match_130
        rw [lt_e, nI_1]
        have k := ih (i + 1) S' (by omega) c1 c2
        rw [mtF, if_pos e] at k
        exact k
      · rw [if_neg e, p_of3 hs' hl (by omega), k'.2.1 3 (by decide) p hp]
        have t' : ∀ j, j < n → hI S' 72 (8 * j + ch) = T j := fun j hj => by rw [c2]; exact hT j hj
        by_cases z : f 3 p = 0
        · rw [if_pos z]
          refine p_childOf (T := T) hs' hl k' hv h14 hc hp (Or.inr ⟨i, by omega, rfl, t' i (by omega), hV i⟩) (t' p hp) (hV p) (fun S1 r1 r2 => ?_)
          rw [jv_e (by omega), show jv n f o (nI ch) T p i = mV n f o (nI ch) T p i from (if_pos z).symm]
          exact step S1 (c1.tr r1) (fun k => by rw [r2, c2]) e
        · rw [if_neg z]
          refine p_childOf (T := T) hs' hl k' hv h14 hc (by omega) (Or.inr ⟨p, hp, rfl, t' p hp, hV p⟩) (t' i (by omega)) (hV i) (fun S1 r1 r2 => ?_)
          rw [jv_e (by omega), show jv n f o (nI ch) T i p = mV n f o (nI ch) T p i from (if_neg z).symm]
          exact step S1 (c1.tr r1) (fun k => by rw [r2, c2]) e
  have k := key n 0 S (by omega) (MC.rf S) (fun _ => rfl)
  rw [mtF] at k
  exact ⟨n + 1, k⟩
theorem s_match {N : Nat} {ln : Nat → Nat} {S : HC} (h : PI N ln S) (a1 a2 a3 : Int32) : wpX7_match ln S 0 a1 a2 a3 fun v S => wpX8_match ln S 68 a1 a2 a3 fun w S => OK N ln v w S := by
  obtain ⟨⟨hs, hl, -, -⟩, ⟨⟨n, hn⟩, m, m1, m2, m3, m4⟩, -⟩ := id h
  have h14 := hn.1
  have hv := hn.2.2.2.2.1
  unfold wpX7_match BX7_match_27
  rw [sh0_0 hs, dn_e, p_has]
  rcases i_in a1 n (by omega) with ⟨p, hp, rfl⟩ | hx
  · rw [hasT hn.2.1 h14 hp, if_neg (by decide), p_isCharge]
    have no : ¬ ((0 ≤ a2 ∧ a2 < 8) ∧ 0 ≤ a3 ∧ a3 ≤ 1) → wpX8_match ln S 68 (nI p) a2 a3 fun w S => OK N ln (-1000000001) w S := fun q => by
      unfold wpX8_match BX8_match_24
      rw [p_isOne hs hl, oneT hn.2.2.1 h14 hp, if_neg (by decide), p_mCharge, chE]
      by_cases c : 0 ≤ a2 ∧ a2 < 8
      · rw [bI_t c, if_neg (by decide), p_in, bI_f (fun u => q ⟨c, u⟩), if_pos rfl]; exact ⟨rfl, h⟩
      · rw [bI_f c, if_pos rfl]; exact ⟨rfl, h⟩
    by_cases c : 0 ≤ a2 ∧ a2 < 8
    · obtain ⟨ch, hc, rfl⟩ := ge_of (n := 8) (by decide) c
      rw [bI_t c, if_neg (by decide)]
      by_cases d1 : a3 < 0
      · rw [if_pos d1]; exact no (fun q => absurd d1 (Int32.not_lt.mpr q.2.1))
      rw [if_neg d1]
      by_cases d2 : a3 ≤ 1
      · rw [if_pos d2, sh0_4 hs, dn_e, sh0_0 hs, dn_e]
        refine p_lookAt (n := n) (m := m) (f := mf S 69) hs hl (Or.inl rfl) hn.2.1 hn.2.2.2.1 h14 hn.2.2.1 (fun _ _ _ _ => rfl) m1 m2 m3 m4 (fun S1 o k1 k2 e1 e2 => ?_)
        have s1 : Sm S S1 := ⟨fun r k u => e1 r k (fun v => u (by unfold sc; omega)), fun r k u _ _ => e2 r k u⟩
        have hs1 := hs.sm s1
        rw [sh0_4 hs1, dn_e]
        refine p_workOut hs1 hl (Or.inl rfl) k1 hv h14 hc (fun S2 w2 => ?_)
        have s2 : Sm S1 S2 := ⟨fun r k u => w2.1 r k (fun v => u (by unfold sc; omega)) (fun v => u (by unfold sc; omega)), fun r k _ _ _ => w2.2.2.2 r k⟩
        have hs2 := hs1.sm s2
        refine p_xmatch hs2 hl (k1.ag (Or.inl rfl) w2.1 w2.2.2.2) h14 hc hp w2.2.2.1 (fun S3 g1 g2 => ?_)
        have s3 : Sm S2 S3 := ⟨fun r k u => g1 r k (fun v => u (by unfold sc; omega)), fun r k _ _ _ => g2 r k⟩
        have hs3 := hs2.sm s3
        have k2' := (k2.wo w2.1 w2.2.2.2).wo (fun q k _ u => g1 q k u) g2
        have mok := mtF_ok (n := n) (f := mf S 69) (o := o) (ch := nI ch) (T := ptT n (mf S 69) o (nI ch) n) (p := p) n (by omega)
        unfold wpX8_match
        try dsimp only
        rw [p_isOne hs3 hl, oneT k2'.1 h14 hp, if_neg (by decide), p_mCharge, chE, bI_t c, if_neg (by decide), p_in, bI_t ⟨Int32.not_lt.mp d1, d2⟩, if_neg (by decide)]
        refine p_worksOf hs3 hl k2' hv h14 hc (fun S4 w4 => ?_)
        refine p_mmatch (w4.1.sh hs3) hl (k2'.ag w4.1) hv h14 hc hp w4.2.1 (ptT_ok n) (fun S5 c5 => ⟨?_, h.sm ((((s1.tr s2).tr s3).tr w4.1.sm).tr c5.sm)⟩)
        rcases mok with e | ⟨t, v, ht, e, -⟩
        · rw [e]
          dsimp only
          rw [if_pos rfl, if_neg (show ¬ (0 : Int32) ≤ -1 by decide)]
          split <;> rfl
        · rw [e]
          dsimp only
          simp only [if_neg (m1_ne (show t < 2 ^ 31 by omega)), if_pos (nI_pos' (show t < 2 ^ 31 by omega))]
      · rw [if_neg d2]; exact no (fun q => d2 q.2.2)
    · rw [bI_f c, if_pos rfl]; exact no (fun q => c q.1)
  · rw [hasF hn.2.1 hx, if_pos rfl]
    unfold wpX8_match BX8_match_24
    dsimp only
    rw [p_isOne hs hl, oneF hn.2.2.1 h14 hx, if_pos rfl]
    exact ⟨rfl, h⟩
