/-! step: alike -/
theorem lg_0 {x y : Int64} : lg_cmp x y = 0 ↔ x = y := by
  unfold lg_cmp
  by_cases e : x = y
  · subst e
    rw [if_neg (fun u => Int64.lt_irrefl u), if_pos rfl]
    exact ⟨fun _ => rfl, fun _ => rfl⟩
  · by_cases g : x > y
    · rw [if_pos g]
      exact ⟨fun u => absurd u (by decide), fun u => absurd u e⟩
    · rw [if_neg g, if_neg e]
      exact ⟨fun u => absurd u (by decide), fun u => absurd u e⟩
theorem s_alike {N : Nat} {ln : Nat → Nat} {S : HC} (h : PI N ln S) (a1 a2 : Int32) : wpX7_alike ln S 0 a1 a2 fun v S => wpX8_alike ln S 68 a1 a2 fun w S => OK N ln v w S := by
  obtain ⟨⟨hs, hl, -, -⟩, ⟨⟨n, hn⟩, m, m1, m2, m3, m4⟩, -⟩ := id h
  have h14 := hn.1
  have hv := hn.2.2.2.2.1
  unfold wpX7_alike BX7_alike_27 wpX4_workOutAll
  rw [sh0_0 hs, dn_e, p_has]
  rcases i_in a1 n (by omega) with ⟨p, hp, rfl⟩ | hx
  · rw [hasT hn.2.1 h14 hp, if_neg (by decide), sh0_0 hs, dn_e, p_has]
    rcases i_in a2 n (by omega) with ⟨q, hq, rfl⟩ | hx
    · rw [hasT hn.2.1 h14 hq, if_neg (by decide)]
      by_cases e : nI p = nI q
      · rw [if_pos e]
        unfold wpX8_alike BX8_alike_21
        dsimp only
        rw [p_isOne hs hl, oneT hn.2.2.1 h14 hp, if_neg (by decide), p_isOne hs hl, oneT hn.2.2.1 h14 hq, if_neg (by decide), if_pos e]
        exact ⟨rfl, h⟩
      rw [if_neg e, sh0_4 hs, dn_e, sh0_0 hs, dn_e]
      refine p_lookAt (n := n) (m := m) (f := mf S 69) hs hl (Or.inl rfl) hn.2.1 hn.2.2.2.1 h14 hn.2.2.1 (fun _ _ _ _ => rfl) m1 m2 m3 m4 (fun S1 o k1 k2 e1 e2 => ?_)
      have s1 : Sm S S1 := ⟨fun r k u => e1 r k (fun v => u (by unfold sc; omega)), fun r k u _ _ => e2 r k u⟩
      have hs1 := hs.sm s1
      refine p_allOut hs1 hl (Or.inl rfl) k1 hv h14 (fun S2 w2 => ?_)
      have s2 : Sm S1 S2 := ⟨fun r k u => w2.1 r k (fun v => u (by unfold sc; omega)) (fun v => u (by unfold sc; omega)), fun r k _ _ _ => w2.2.2 r k⟩
      have hs2 := hs1.sm s2
      have k3 := k1.ag (Or.inl rfl) w2.1 w2.2.2
      have k2' := k2.wo w2.1 w2.2.2
      have hV : ∀ ch j, V64 ((fun ch => ptT n (mf S 69) o (nI ch) n) ch j) := fun ch j => ptT_ok n j
      rw [sh0_4 hs2, dn_e]
      refine p_packed hs2 hl (Or.inl rfl) k3 h14 hp w2.2.1 hV (fun x hx => ?_)
      rw [sh0_4 hs2, dn_e]
      refine p_packed hs2 hl (Or.inl rfl) k3 h14 hq w2.2.1 hV (fun y hy => ?_)
      rw [lt_e]
      have iff := lg_0.trans (alk_pk hV hx hy)
      have mm : ∀ v : Int32, (alk (mf S 69) (fun ch => ptT n (mf S 69) o (nI ch) n) p q → v = 1) → (¬ alk (mf S 69) (fun ch => ptT n (mf S 69) o (nI ch) n) p q → v = 0) → wpX8_alike ln S2 68 (nI p) (nI q) fun w S => OK N ln v w S := fun v v1 v0 => by
        unfold wpX8_alike
        rw [p_isOne hs2 hl, oneT k2'.1 h14 hp, if_neg (by decide), p_isOne hs2 hl, oneT k2'.1 h14 hq, if_neg (by decide), if_neg e]
        refine p_worksAll hs2 hl k2' hv h14 (fun S3 w3 => ?_)
        refine p_areAlike (w3.1.sh hs2) hl (k2'.ag w3.1) h14 hp hq w3.2 (fun u => ?_) (fun u => ?_)
        · rw [if_neg (by decide)]; exact ⟨v1 u, h.sm ((s1.tr s2).tr w3.1.sm)⟩
        · rw [if_pos rfl]; exact ⟨v0 u, h.sm ((s1.tr s2).tr w3.1.sm)⟩
      by_cases z : lg_cmp x y = 0
      · rw [if_pos z]; exact mm 1 (fun _ => rfl) (fun u => absurd (iff.mp z) u)
      · rw [if_neg z]; exact mm 0 (fun u => absurd (iff.mpr u) z) (fun _ => rfl)
    · rw [hasF hn.2.1 hx, if_pos rfl]
      unfold wpX8_alike BX8_alike_21
      dsimp only
      rw [p_isOne hs hl, oneT hn.2.2.1 h14 hp, if_neg (by decide), p_isOne hs hl, oneF hn.2.2.1 h14 hx, if_pos rfl]
      exact ⟨rfl, h⟩
  · rw [hasF hn.2.1 hx, if_pos rfl]
    unfold wpX8_alike BX8_alike_21
    dsimp only
    rw [p_isOne hs hl, oneF hn.2.2.1 h14 hx, if_pos rfl]
    exact ⟨rfl, h⟩
