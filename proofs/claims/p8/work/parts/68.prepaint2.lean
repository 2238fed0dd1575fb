/-! step repaint, the reference's side -/
def RM (S S' : HC) (p : Nat) : Prop := (∀ q k, q ≠ 72 → q ≠ 80 → q ≠ 81 → ¬ (q = 69 ∧ k = 5 + 6 * p + 4) → hI S' q k = hI S q k) ∧ ∀ q k, hR S' q k = hR S q k
theorem MC.rm {S S' : HC} (h : MC S S') (p : Nat) : RM S S' p := ⟨fun q k u1 u2 u3 _ => h.1 q k u1 u2 u3, h.2⟩
theorem MK.rp {ln : Nat → Nat} {N : Nat} {S : HC} {n p : Nat} {g : Nat → Nat → Int32} {o : Option ((Nat → Int32) × Nat)} {v : Int32} (h : MK ln N S 17 n g o) (hp : p < 14) : MK ln N (sI S 69 (5 + 6 * p + 4) v) 17 n (rF g p v) o := by
  obtain ⟨a1, a2, a3⟩ := h
  have w : MW ln N S 17 o := a3
  refine ⟨by rw [hI_ne (by omega)]; exact a1, fun k hk j hj => ?_, w.ag (fun k u => hI_ne (by omega)) (fun r k u => hI_row (by omega)) (fun _ _ => rfl)⟩
  show hI _ 69 (5 + 6 * j + k) = _
  by_cases q : k = 4 ∧ j = p
  · rw [q.1, q.2, rF_s, hI_self]
  · rw [hI_ne (by omega), show rF g p v k j = g k j from if_neg q]
    exact a2 k hk j hj
theorem p_mrepaint {ln : Nat → Nat} {N : Nat} {S : HC} {n : Nat} {f : Nat → Nat → Int32} {o : Option ((Nat → Int32) × Nat)} {post : Int32 → HC → Prop} (hs : SH S) (hl : LN ln) (hk : MK ln N S 17 n f o) (hv : VP n f) (h14 : n ≤ 14) (h : ∀ S', MC S S' → post (bX (rpO n f o n).1) S') : ∃ k, LX8_repaint_9 ln post k S 68 (-1) (clK n o f) 0 := by
  have key : ∀ m p S', p + m = n → MC S S' → LX8_repaint_9 ln post (m + 1) S' 68 (rpO n f o p).1 (rpO n f o p).2 (nI p) := by
    intro m
    induction m with
    | zero =>
      intro p S' hp hd
      have e : p = n := by omega
      subst e
      rw [LX8_repaint_9]
      dsimp only
      rw [sh68_0 (hd.sh hs), dn_e, ln69 hl, al_l1 (by decide) (by decide), (hk.ag hd).1, if_pos (nI_le (by omega) (by omega)), p_told0]
      exact h S' hd
    | succ m ih =>
      intro p S' hp hd
      have hs' := hd.sh hs
      have k' := hk.ag hd
      rw [LX8_repaint_9]
      dsimp only
      rw [sh68_0 hs', dn_e, ln69 hl, al_l1 (by decide) (by decide), k'.1, if_neg (nI_ge (by omega) (by omega)), p_of4 hs' hl (by omega), k'.2.1 4 (by decide) p (by omega)]
      have nx := fun S2 q1 => ih (p + 1) S2 (by omega) q1
      have rest : ∀ (S2 : HC) (b1 b2 : Int32), RM S S2 p → (∀ S3, MC S S3 → LX8_repaint_9 ln post (m + 1) S3 68 b1 b2 (nI (p + 1))) → BX8_repaint_111 ln post (LX8_repaint_9 ln post (m + 1)) S2 68 b1 b2 (nI p) (f 4 p) := fun S2 b1 b2 d2 kx => by
        unfold BX8_repaint_111
        rw [sh68_0 (hs.of (fun _ _ => d2.2 _ _)), dn_e]
        simp only [lt_e]
        rw [show (6 : Int32) * nI p = nI (6 * p) from pk_mul 6 p, show (5 : Int32) + nI (6 * p) = nI (5 + 6 * p) from nI_add 5 (6 * p), show nI (5 + 6 * p) + 4 = nI (5 + 6 * p + 4) from nI_add _ 4, ln69 hl, as_e (by omega) (by decide), nI_1]
        refine kx _ ⟨fun q k u1 u2 u3 => ?_, fun q k => d2.2 q k⟩
        by_cases e : q = 69 ∧ k = 5 + 6 * p + 4
        · rw [e.1, e.2, hI_self]
          exact (hk.2.1 4 (by decide) p (by omega)).symm
        · rw [hI_ne e]; exact d2.1 q k u1 u2 u3 e
      rcases hv.fat (j := p) (by omega) with q | ⟨q0, hq0, q⟩
      · rw [rpO, if_pos q] at nx
        generalize rpO n f o p = G at nx ⊢
        have inner : ∀ m2 c S2 v, c + m2 = 8 → RM S S2 p → MK ln N S2 17 n (rF f p v) o → (∃ d, d < 8 ∧ v = nI d) → LX8_repaint_30 ln post (LX8_repaint_9 ln post (m + 1)) (m2 + 1) S2 68 (rpI n f o p c G).1 (rpI n f o p c G).2 (nI p) (f 4 p) (nI c) := by
          intro m2
          induction m2 with
          | zero =>
            intro c S2 v hc d2 k2 hv2
            have e : c = 8 := by omega
            subst e
            rw [LX8_repaint_30]
            dsimp only
            rw [if_pos (by decide)]
            exact rest S2 _ _ d2 nx
          | succ m2 ih2 =>
            intro c S2 v hc d2 k2 hv2
            have hs2 : SH S2 := hs.of (fun _ _ => d2.2 _ _)
            have k := fun S3 v u1 u2 u3 => ih2 (c + 1) S3 v (by omega) u1 u2 u3
            rw [rpI] at k
            generalize rpI n f o p c G = G1 at k ⊢
            rw [LX8_repaint_30]
            dsimp only
            rw [if_neg (show ¬ (8 : Int32) ≤ nI c from nI_ge (b := 8) (by omega) (by decide)), p_of1 hs2 hl (by omega), k2.2.1 1 (by decide) p (by omega), rF_n (by decide), q, if_neg (by decide)]
            unfold BX8_repaint_91 BX8_repaint_104 BX8_repaint_105
            by_cases q1 : nI c = f 4 p
            · rw [if_pos (Or.inl q1)] at k
              rw [if_pos q1, lt_e, nI_1]
              exact k S2 v d2 k2 hv2
            · rw [if_neg q1, sh68_0 hs2, dn_e]
              simp only [lt_e]
              rw [show (6 : Int32) * nI p = nI (6 * p) from pk_mul 6 p, show (5 : Int32) + nI (6 * p) = nI (5 + 6 * p) from nI_add 5 (6 * p), show nI (5 + 6 * p) + 4 = nI (5 + 6 * p + 4) from nI_add _ 4, ln69 hl, as_e (by omega) (by decide), nI_1]
              have k3 : MK ln N (sI S2 69 (5 + 6 * p + 4) (nI c)) 17 n (rF f p (nI c)) o := by
                have := k2.rp (p := p) (v := nI c) (by omega)
                rw [rF_rF] at this
                exact this
              refine p_mclashes (hs2.sI _ _ _) hl k3 (rF_ok hv ⟨c, by omega, rfl⟩) h14 (fun S4 c4 => ?_)
              have d4 : RM S S4 p := ⟨fun q k u1 u2 u3 u4 => by rw [c4.1 q k u1 u2 u3, hI_ne u4]; exact d2.1 q k u1 u2 u3 u4, fun q k => by rw [c4.2]; exact d2.2 q k⟩
              have k4 := k3.ag c4
              show (if G1.2 ≤ clK n o (rF f p (nI c)) then _ else _)
              by_cases q2 : G1.2 ≤ clK n o (rF f p (nI c))
              · rw [if_pos (Or.inr q2)] at k
                rw [if_pos q2]
                show (if G1.2 ≤ clK n o (rF f p (nI c)) then _ else _)
                rw [if_pos q2]
                exact k S4 _ d4 k4 ⟨c, by omega, rfl⟩
              · rw [if_neg (fun u => u.elim q1 q2)] at k
                rw [if_neg q2, show (10 : Int32) * nI p = nI (10 * p) from pk_mul 10 p, nI_add]
                show (if G1.2 ≤ clK n o (rF f p (nI c)) then _ else _)
                rw [if_neg q2]
                exact k S4 _ d4 k4 ⟨c, by omega, rfl⟩
        obtain ⟨a, ha, ea⟩ := hv.fst (j := p) (by omega)
        exact ⟨9, inner 8 0 S' (f 4 p) (by omega) (hd.rm p) (by rw [rF_id rfl]; exact k') ⟨a, ha, ea⟩⟩
      · have ne : ¬ f 1 p = -1 := by rw [q]; exact m1_ne (by omega)
        rw [rpO, if_neg ne] at nx
        refine ⟨1, ?_⟩
        rw [LX8_repaint_30]
        dsimp only
        rw [if_neg (by decide), p_of1 hs' hl (by omega), k'.2.1 1 (by decide) p (by omega), q, if_pos (nI_pos' (by omega))]
        exact rest S' _ _ (hd.rm p) nx
  exact ⟨n + 1, key n 0 S (by omega) (MC.rf S)⟩
theorem s_repaint {N : Nat} {ln : Nat → Nat} {S : HC} (h : PI N ln S) : wpX7_repaint ln S 0 fun v S => wpX8_repaint ln S 68 fun w S => OK N ln v w S := by
  obtain ⟨⟨hs, hl, -, -⟩, ⟨⟨n, hn⟩, hw⟩, -⟩ := id h
  have h14 := hn.1
  obtain ⟨f, fe, ye, z, x1, x2, x3, x4, x5⟩ := hn.out
  have hb : LB 17 := Or.inr (Or.inr (Or.inl rfl))
  unfold wpX7_repaint wpX4_workOutAll
  rw [sh0_3 hs, dn_e, sh0_0 hs, dn_e]
  refine p_become hs hl hb (Or.inl rfl) (by omega) (fun S1 f1 => ?_)
  have hs1 : SH S1 := hs.sm f1.sm
  have y1 : XA S1 17 n f fe ye z := x1.bc h14 f1
  obtain ⟨m, m1, m2, m3, m4⟩ := hw.th f1.sm (f1.2.2.1 11 (by omega)) f1.2.2.2.2
  rw [sh0_4 hs1, dn_e, sh0_3 hs1, dn_e]
  refine p_look2 hs1 hl hb y1.1 y1.2.1 h14 m1 m2 m3 m4 (fun S2 o k2 w2 g1 g2 => ?_)
  have s2 := f1.sm.tr (look_sm g1 g2)
  have hs2 := hs.sm s2
  refine p_allOut hs2 hl hb k2 x3 h14 (fun S3 w3 => ?_)
  have s3 := s2.tr (wo_sm w3.1 w3.2.2)
  have hs3 := hs.sm s3
  have k3 := k2.ag hb w3.1 w3.2.2
  rw [sh0_4 hs3, dn_e]
  refine p_clashes hs3 hl hb k3 h14 w3.2.1 (fun ch j => ptT_ok _ j) (fun S4 q1 q2 => ?_)
  have s4 := s3.tr (wo_sm (fun q k _ _ => q1 q k) q2)
  have hs4 := hs.sm s4
  refine p_xrepaint hs4 hl ⟨k3.ag hb (fun q k _ _ => q1 q k) q2, fun ch j u1 u2 => by rw [q1]; exact w3.2.1 ch j u1 u2⟩ x3 h14 (fun S5 d5 => ?_)
  have s5 := s4.tr d5.sm
  have hs5 := hs.sm s5
  have w5 : MW ln N S5 17 o := ((w2.wo w3.1 w3.2.2).wo (fun q k _ _ => q1 q k) q2).ag (fun k _ => d5.1 _ _ (by decide) (by decide) (by decide)) (fun r k u => d5.1 r k (by omega) (by omega) (by omega)) d5.2
  have k5 := w5.mk (x2.sm h14 s5)
  unfold wpX8_repaint
  try dsimp only
  refine p_mclashes hs5 hl k5 x3 h14 (fun S6 c6 => ?_)
  exact p_mrepaint (c6.sh hs5) hl (k5.ag c6) x3 h14 (fun S7 c7 => ⟨rfl, h.sm (s5.tr (c6.tr c7).sm)⟩)
