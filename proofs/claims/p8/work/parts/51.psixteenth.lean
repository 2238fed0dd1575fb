/-! step: sixteenth -/
def shB (f : Nat → Nat → Int32) (T : Nat → Int32) (ch : Nat) (w : Int32) : Nat → Int32
  | 0 => 0
  | i + 1 => if w ≤ shV f T ch i then shB f T ch w i ||| ((1 : Int32) <<< (nI i &&& 31)) else shB f T ch w i
theorem p_bearersOf {ln : Nat → Nat} {N : Nat} {S : HC} {b n ch : Nat} {f : Nat → Nat → Int32} {o : Option ((Nat → Int32) × Nat)} {T : Nat → Int32} {w : Int32} {post : Int32 → HC → Prop} (hs : SH S) (hl : LN ln) (hb : LB b) (hk : LK ln N S b n f o) (h14 : n ≤ 14) (hc : ch < 8) (hT : ∀ p, p < n → hI S 26 (14 * ch + p) = T p) (h : post (shB f T ch w n) S) : wpX4_bearersOf ln S 25 (nI ch) w post := by
  have key : ∀ m i, i + m = n → LX4_bearersOf_5 ln post (m + 1) S 25 (nI ch) w (shB f T ch w i) (nI i) := by
    intro m
    induction m with
    | zero =>
      intro i hi
      rw [LX4_bearersOf_5]
      dsimp only
      rw [hk.1, dn_e, lt_e, hk.2.2.1, if_pos (nI_le (by omega) (by omega)), show i = n by omega]
      exact h
    | succ m ih =>
      intro i hi
      have k := ih (i + 1) (by omega)
      rw [shB] at k
      rw [LX4_bearersOf_5]
      dsimp only
      unfold BX4_bearersOf_35
      rw [hk.1, dn_e, lt_e, hk.2.2.1, if_neg (nI_ge (by omega) (by omega)), p_shown hs hl hb hk h14 hc (by omega) (hT i (by omega)), lt_e, lt_e, lt_e, nI_1]
      by_cases u : w ≤ shV f T ch i
      · rw [if_pos u] at k
        rw [if_neg (Int32.not_lt.mpr u)]
        try rw [lt_e]
        exact k
      · rw [if_neg u] at k
        rw [if_pos (Int32.not_le.mp u)]
        exact k
  exact ⟨n + 1, key n 0 (by omega)⟩
theorem p_m16 {ln : Nat → Nat} {N : Nat} {S : HC} {b n ch : Nat} {f : Nat → Nat → Int32} {o : Option ((Nat → Int32) × Nat)} {T : Nat → Int32} {post : Int32 → HC → Prop} (hs : SH S) (hl : LN ln) (hk : MK ln N S b n f o) (h14 : n ≤ 14) (hc : ch < 8) (hT : ∀ p, p < n → hI S 72 (8 * p + ch) = T p) (h : post (shB f T ch 4 n) S) : ∃ k, LX8_sixteenth_19 ln post k S 68 (nI ch) 0 0 := by
  have key : ∀ m i, i + m = n → LX8_sixteenth_19 ln post (m + 1) S 68 (nI ch) (shB f T ch 4 i) (nI i) := by
    intro m
    induction m with
    | zero =>
      intro i hi
      rw [LX8_sixteenth_19]
      dsimp only
      rw [sh68_0 hs, dn_e, ln69 hl, al_l1 (by decide) (by decide), hk.1, if_pos (nI_le (by omega) (by omega)), show i = n by omega]
      exact h
    | succ m ih =>
      intro i hi
      have k := ih (i + 1) (by omega)
      rw [shB] at k
      rw [LX8_sixteenth_19]
      dsimp only
      unfold BX8_sixteenth_47
      rw [sh68_0 hs, dn_e, ln69 hl, al_l1 (by decide) (by decide), hk.1, if_neg (nI_ge (by omega) (by omega)), p_borne hs hl hk h14 hc (by omega) (hT i (by omega))]
      simp only [lt_e]
      rw [nI_1, Int32.or_zero]
      by_cases u : 4 ≤ shV f T ch i
      · rw [if_pos u] at k ⊢
        exact k
      · rw [if_neg u] at k ⊢
        exact k
  exact ⟨n + 1, key n 0 (by omega)⟩
theorem s_sixteenth {N : Nat} {ln : Nat → Nat} {S : HC} (h : PI N ln S) (a1 : Int32) : wpX7_sixteenth ln S 0 a1 fun v S => wpX8_sixteenth ln S 68 a1 fun w S => OK N ln v w S := by
  obtain ⟨⟨hs, hl, -, -⟩, ⟨⟨n, hn⟩, m, m1, m2, m3, m4⟩, -⟩ := id h
  have h14 := hn.1
  have hv := hn.2.2.2.2.1
  unfold wpX7_sixteenth
  rw [p_isCharge]
  by_cases c : 0 ≤ a1 ∧ a1 < 8
  · obtain ⟨ch, hc, rfl⟩ := ge_of (n := 8) (by decide) c
    rw [bI_t c, if_neg (by decide), sh0_4 hs, dn_e, sh0_0 hs, dn_e]
    refine p_lookAt (n := n) (m := m) (f := mf S 69) hs hl (Or.inl rfl) hn.2.1 hn.2.2.2.1 h14 hn.2.2.1 (fun _ _ _ _ => rfl) m1 m2 m3 m4 (fun S1 o k1 k2 e1 e2 => ?_)
    have s1 : Sm S S1 := ⟨fun r k u => e1 r k (fun v => u (by unfold sc; omega)), fun r k u _ _ => e2 r k u⟩
    have hs1 := hs.sm s1
    rw [sh0_4 hs1, dn_e]
    refine p_workOut hs1 hl (Or.inl rfl) k1 hv h14 hc (fun S2 w2 => ?_)
    have s2 : Sm S1 S2 := ⟨fun r k u => w2.1 r k (fun v => u (by unfold sc; omega)) (fun v => u (by unfold sc; omega)), fun r k _ _ _ => w2.2.2.2 r k⟩
    have hs2 := hs1.sm s2
    rw [sh0_4 hs2, dn_e]
    refine p_bearersOf hs2 hl (Or.inl rfl) (k1.ag (Or.inl rfl) w2.1 w2.2.2.2) h14 hc w2.2.2.1 ?_
    unfold wpX8_sixteenth
    dsimp only
    have k2' := k2.wo w2.1 w2.2.2.2
    rw [p_mCharge, chE, bI_t c, if_neg (by decide)]
    refine p_worksOf hs2 hl k2' hv h14 hc (fun S3 w3 => ?_)
    exact p_m16 (w3.1.sh hs2) hl (k2'.ag w3.1) h14 hc w3.2.1 ⟨rfl, h.sm ((s1.tr s2).tr w3.1.sm)⟩
  · rw [bI_f c, if_pos rfl]
    unfold wpX8_sixteenth
    dsimp only
    rw [p_mCharge, chE, bI_f c, if_pos rfl]
    exact ⟨rfl, h⟩
