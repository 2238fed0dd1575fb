/-! step: land, on -/
theorem alk_sy {f : Nat → Nat → Int32} {T : Nat → Nat → Int32} {p q : Nat} (h : alk f T p q) : alk f T q p := fun ch hc => (h ch hc).symm
theorem p_mclashes {ln : Nat → Nat} {N : Nat} {S : HC} {b n : Nat} {f : Nat → Nat → Int32} {o : Option ((Nat → Int32) × Nat)} {post : Int32 → HC → Prop} (hs : SH S) (hl : LN ln) (hk : MK ln N S b n f o) (hv : VP n f) (h14 : n ≤ 14) (h : ∀ S', MC S S' → post (nI (clI f (fun ch => ptT n f o (nI ch) n) n)) S') : wpX8_clashes ln S 68 post := by
  unfold wpX8_clashes
  refine p_worksAll hs hl hk hv h14 (fun S1 w1 => ?_)
  have hs1 := w1.1.sh hs
  have k1 := hk.ag w1.1
  generalize hT : (fun ch => ptT n f o (nI ch) n) = T at *
  have key : ∀ m i, i + m = n → LX8_clashes_8 ln post (m + 1) S1 68 (nI (clI f T i)) (nI i) := by
    intro m
    induction m with
    | zero =>
      intro i hi
      rw [LX8_clashes_8]
      dsimp only
      rw [sh68_0 hs1, dn_e, ln69 hl, al_l1 (by decide) (by decide), k1.1, if_pos (nI_le (by omega) (by omega)), show i = n by omega]
      exact h S1 w1.1
    | succ m ih =>
      intro i hi
      rw [LX8_clashes_8]
      dsimp only
      rw [sh68_0 hs1, dn_e, ln69 hl, al_l1 (by decide) (by decide), k1.1, if_neg (nI_ge (by omega) (by omega))]
      have inner : ∀ m2 j, j + m2 = i → LX8_clashes_20 ln post (LX8_clashes_8 ln post (m + 1)) (m2 + 1) S1 68 (nI (clI f T i + clJ f T i j)) (nI i) (nI j) := by
        intro m2
        induction m2 with
        | zero =>
          intro j hj
          have ej : j = i := by omega
          subst ej
          rw [LX8_clashes_20]
          dsimp only
          rw [if_pos (nI_le (by omega) (by omega)), lt_e, nI_1]
          have k := ih (j + 1) (by omega)
          rw [clI] at k
          exact k
        | succ m2 ih2 =>
          intro j hj
          have k := ih2 (j + 1) (by omega)
          rw [clJ] at k
          rw [LX8_clashes_20]
          dsimp only
          unfold BX8_clashes_40
          rw [if_neg (nI_ge (by omega) (by omega))]
          refine p_areAlike hs1 hl k1 h14 (by omega) (by omega) w1.2 (fun u => ?_) (fun u => ?_)
          · rw [if_pos (alk_sy u)] at k
            rw [if_neg (by decide), lt_e, lt_e, nI_1, nI_1, show clI f T i + clJ f T i j + 1 = clI f T i + (clJ f T i j + 1) by omega]
            exact k
          · rw [if_neg (fun v => u (alk_sy v)), Nat.add_zero] at k
            rw [if_pos rfl, lt_e, lt_e, nI_1, show nI (clI f T i + clJ f T i j) + 0 = nI (clI f T i + clJ f T i j + 0) from nI_add _ 0, Nat.add_zero]
            exact k
      exact ⟨i + 1, inner i 0 (by omega)⟩
  exact ⟨n + 1, key n 0 (by omega)⟩
theorem s_land {N : Nat} {ln : Nat → Nat} {S : HC} (h : PI N ln S) (a1 : Int32) : wpX7_land ln S 0 a1 fun v S => wpX8_land ln S 68 a1 fun w S => OK N ln v w S := by
  obtain ⟨⟨hs, hl, -, -⟩, ⟨⟨n, hn⟩, m, m1, m2, m3, m4⟩, -⟩ := id h
  have h14 := hn.1
  have hv := hn.2.2.2.2.1
  unfold wpX7_land wpX4_workOutAll
  by_cases c0 : a1 = 0
  · subst c0
    rw [if_pos rfl, sh0_4 hs, dn_e, sh0_0 hs, dn_e]
    refine p_lookAt (n := n) (m := m) (f := mf S 69) hs hl (Or.inl rfl) hn.2.1 hn.2.2.2.1 h14 hn.2.2.1 (fun _ _ _ _ => rfl) m1 m2 m3 m4 (fun S1 o k1 k2 e1 e2 => ?_)
    have s1 : Sm S S1 := ⟨fun r k u => e1 r k (fun v => u (by unfold sc; omega)), fun r k u _ _ => e2 r k u⟩
    have hs1 := hs.sm s1
    refine p_allOut hs1 hl (Or.inl rfl) k1 hv h14 (fun S2 w2 => ?_)
    have s2 : Sm S1 S2 := ⟨fun r k u => w2.1 r k (fun v => u (by unfold sc; omega)) (fun v => u (by unfold sc; omega)), fun r k _ _ _ => w2.2.2 r k⟩
    have hs2 := hs1.sm s2
    have k3 := k1.ag (Or.inl rfl) w2.1 w2.2.2
    have k2' := k2.wo w2.1 w2.2.2
    rw [sh0_4 hs2, dn_e]
    refine p_clashes hs2 hl (Or.inl rfl) k3 h14 w2.2.1 (fun ch j => ptT_ok n j) (fun S3 g1 g2 => ?_)
    have s3 : Sm S2 S3 := ⟨fun r k _ => g1 r k, fun r k _ _ _ => g2 r k⟩
    unfold wpX8_land
    dsimp only
    rw [p_in, bI_t (by decide), if_neg (by decide), if_neg (by decide), if_pos rfl]
    exact p_mclashes (hs2.sm s3) hl (k2'.wo (fun q k _ _ => g1 q k) g2) hv h14 (fun S4 c4 => ⟨rfl, h.sm (((s1.tr s2).tr s3).tr c4.sm)⟩)
  rw [if_neg c0]
  by_cases c1 : a1 = 1
  · subst c1
    rw [if_pos rfl, sh0_0 hs, dn_e]
    refine p_howMany (g := mf S 69 3) hs hl (Or.inl rfl) hn.2.1 h14 (fun j hj => hn.2.2.2.1 3 (by decide) j hj) ?_
    unfold wpX8_land
    dsimp only
    rw [p_in, bI_t (by decide), if_neg (by decide), if_neg (by decide), if_neg (by decide), lt_e, show (1 : Int32) - 1 = 0 by decide]
    exact p_manyOf hs hl hn.2.2.1 h14 (fun _ _ => rfl) ⟨rfl, h⟩
  rw [if_neg c1]
  by_cases c2 : a1 = 2
  · subst c2
    rw [if_pos rfl, sh0_0 hs, dn_e]
    refine p_howMany (g := mf S 69 3) hs hl (Or.inl rfl) hn.2.1 h14 (fun j hj => hn.2.2.2.1 3 (by decide) j hj) ?_
    unfold wpX8_land
    dsimp only
    rw [p_in, bI_t (by decide), if_neg (by decide), if_neg (by decide), if_neg (by decide), lt_e, show (2 : Int32) - 1 = 1 by decide]
    exact p_manyOf hs hl hn.2.2.1 h14 (fun _ _ => rfl) ⟨rfl, h⟩
  rw [if_neg c2]
  by_cases c3 : a1 = 3
  · subst c3
    rw [if_pos rfl, sh0_0 hs, dn_e]
    refine p_heiresses hs hl (Or.inl rfl) hn.2.1 hn.2.2.2.1 h14 ?_
    unfold wpX8_land
    dsimp only
    rw [p_in, bI_t (by decide), if_neg (by decide), if_pos (by decide)]
    exact p_mher hs hl hn.2.2.1 (fun _ _ _ _ => rfl) hv h14 ⟨rfl, h⟩
  rw [if_neg c3]
  unfold wpX8_land
  dsimp only
  rw [p_in, bI_f (fun q => by
    obtain ⟨q1, q2⟩ := q
    simp only [i_le, i_eq] at q1 q2 c0 c1 c2 c3
    have : (0 : Int32).toInt = 0 := rfl
    have : (1 : Int32).toInt = 1 := rfl
    have : (2 : Int32).toInt = 2 := rfl
    have : (3 : Int32).toInt = 3 := rfl
    omega), if_pos rfl]
  exact ⟨rfl, h⟩
