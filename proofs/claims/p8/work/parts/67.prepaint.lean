/-! step repaint: one's first charge made another one -/
def rF (f : Nat → Nat → Int32) (p : Nat) (v : Int32) : Nat → Nat → Int32 := fun k j => if k = 4 ∧ j = p then v else f k j
theorem rF_n {f : Nat → Nat → Int32} {p : Nat} {v : Int32} {k j : Nat} (h : k ≠ 4) : rF f p v k j = f k j := if_neg (fun q => h q.1)
theorem rF_o {f : Nat → Nat → Int32} {p : Nat} {v : Int32} {k j : Nat} (h : j ≠ p) : rF f p v k j = f k j := if_neg (fun q => h q.2)
theorem rF_s {f : Nat → Nat → Int32} {p : Nat} {v : Int32} : rF f p v 4 p = v := if_pos ⟨rfl, rfl⟩
theorem rF_id {f : Nat → Nat → Int32} {p : Nat} {v : Int32} (h : f 4 p = v) : rF f p v = f := by
  funext k j
  unfold rF
  split
  · next q => rw [q.1, q.2]; exact h.symm
  · rfl
theorem rF_rF {f : Nat → Nat → Int32} {p : Nat} {v w : Int32} : rF (rF f p v) p w = rF f p w := by
  funext k j
  unfold rF
  by_cases q : k = 4 ∧ j = p
  · rw [if_pos q, if_pos q]
  · rw [if_neg q, if_neg q, if_neg q]
theorem rF_ok {n : Nat} {f : Nat → Nat → Int32} {p : Nat} {v : Int32} (h : VP n f) (hv : ∃ c, c < 8 ∧ v = nI c) : VP n (rF f p v) := by
  intro k j hk hj
  by_cases q : k = 4 ∧ j = p
  · unfold rF
    rw [if_pos q]
    obtain ⟨q1, q2⟩ := q
    subst q1
    exact ⟨by omega, by omega, by omega, fun _ => hv, by omega⟩
  · unfold rF
    rw [if_neg q]; exact h k j hk hj
theorem herP_rF {n : Nat} {f : Nat → Nat → Int32} {p : Nat} {v : Int32} {j : Nat} : herP n (rF f p v) j ↔ herP n f j := by
  unfold herP
  simp only [rF_n (f := f) (p := p) (v := v) (k := 3) (by decide), rF_n (f := f) (p := p) (v := v) (k := 1) (by decide)]
theorem herB_rF {n : Nat} {f : Nat → Nat → Int32} {p : Nat} {v : Int32} : ∀ i, herB n (rF f p v) i = herB n f i := by
  intro i
  induction i with
  | zero => rfl
  | succ i ih =>
    rw [herB, herB, ih]
    by_cases e : herP n f i
    · rw [if_pos e, if_pos (herP_rF.mpr e)]
    · rw [if_neg e, if_neg (fun q => e (herP_rF.mp q))]
theorem byK_c {k h mo : Int32} {A B : Prop} [Decidable A] [Decidable B] (e : A ↔ B) : byK k A h mo = byK k B h mo := by
  unfold byK
  by_cases a : A
  · have b := e.mp a
    simp only [if_pos a, if_pos b]
  · have b := fun q => a (e.mpr q)
    simp only [if_neg a, if_neg b]
theorem pt1_rF {n : Nat} {f : Nat → Nat → Int32} {o : Option ((Nat → Int32) × Nat)} {ch : Int32} {T : Nat → Int32} {p i : Nat} {v : Int32} (h1 : f 4 p ≠ ch) (h2 : v ≠ ch) : pt1 n (rF f p v) o ch T i = pt1 n f o ch T i := by
  have e4 : (rF f p v 4 i = ch) ↔ (f 4 i = ch) := by
    by_cases q : i = p
    · subst q
      rw [rF_s]
      exact ⟨fun u => absurd u h2, fun u => absurd u h1⟩
    · rw [rF_o q]
  have eh : ptH n (rF f p v) o ch T i = ptH n f o ch T i := by
    unfold ptH
    rw [rF_n (k := 1) (by decide), rF_n (k := 2) (by decide)]
    by_cases q : f 1 i = -1
    · rw [if_pos q, if_pos q]
      by_cases u : f 4 i = ch
      · rw [if_pos u, if_pos (e4.mpr u)]
      · rw [if_neg u, if_neg (fun w => u (e4.mp w))]
    · rw [if_neg q, if_neg q]
      by_cases u : ¬ f 2 i = -1 ∧ herP n f (ixN (f 2 i))
      · rw [if_pos u, if_pos ⟨u.1, herP_rF.mpr u.2⟩]
      · rw [if_neg u, if_neg (fun w => u ⟨w.1, herP_rF.mp w.2⟩)]
  unfold pt1
  rw [eh, rF_n (k := 0) (by decide), rF_n (k := 2) (by decide)]
  exact byK_c e4
theorem ptT_rF {n : Nat} {f : Nat → Nat → Int32} {o : Option ((Nat → Int32) × Nat)} {ch : Int32} {p : Nat} {v : Int32} (h1 : f 4 p ≠ ch) (h2 : v ≠ ch) : ∀ i, ptT n (rF f p v) o ch i = ptT n f o ch i := by
  intro i
  induction i with
  | zero => rfl
  | succ i ih => rw [ptT, ptT, ih, pt1_rF h1 h2]
/-- the class's shields stand worked out for the thought land, with the people g -/
def RS (ln : Nat → Nat) (N : Nat) (S : HC) (n : Nat) (g : Nat → Nat → Int32) (o : Option ((Nat → Int32) × Nat)) : Prop := LK ln N S 17 n g o ∧ ∀ ch j, ch < 8 → j < n → hI S 26 (14 * ch + j) = ptT n g o (nI ch) n j
def RP (S S' : HC) : Prop := (∀ r k, r ≠ 22 → r ≠ 26 → r ≠ 28 → hI S' r k = hI S r k) ∧ ∀ r k, hR S' r k = hR S r k
theorem RP.rf (S : HC) : RP S S := ⟨fun _ _ _ _ _ => rfl, fun _ _ => rfl⟩
theorem RP.tr {S S' S'' : HC} (h : RP S S') (h2 : RP S' S'') : RP S S'' := ⟨fun r k u1 u2 u3 => (h2.1 r k u1 u2 u3).trans (h.1 r k u1 u2 u3), fun r k => (h2.2 r k).trans (h.2 r k)⟩
theorem RP.sh {S S' : HC} (h : RP S S') (hs : SH S) : SH S' := hs.of (fun _ _ => h.2 _ _)
theorem RP.sm {S S' : HC} (h : RP S S') : Sm S S' := ⟨fun r k u => h.1 r k (fun v => u (by unfold sc; omega)) (fun v => u (by unfold sc; omega)) (fun v => u (by unfold sc; omega)), fun r k _ _ _ => h.2 r k⟩
theorem p_repT {ln : Nat → Nat} {N : Nat} {S : HC} {n p a c : Nat} {g : Nat → Nat → Int32} {o : Option ((Nat → Int32) × Nat)} {post : HC → Prop} (hs : SH S) (hl : LN ln) (hr : RS ln N S n g o) (hv : VP n g) (h14 : n ≤ 14) (hp : p < n) (hc : c < 8) (ha : a < 8) (ga : g 4 p = nI a) (h : ∀ S', RS ln N S' n (rF g p (nI c)) o → RP S S' → post S') : wpX7_repaintThought ln S 0 (nI p) (nI c) post := by
  obtain ⟨⟨k1, k2, k3, k4, k5⟩, ht⟩ := id hr
  have e22 : hI S 22 p = nI a := (k4 4 (by decide) p hp).trans ga
  unfold wpX7_repaintThought
  rw [sh0_3 hs, dn_e, sh17_4 hs, dn_e, ln22 hl, al_e (by omega) (by decide), e22]
  by_cases e : a = c
  · subst e
    rw [if_pos rfl]
    refine h S ?_ (RP.rf S)
    rw [rF_id ga]
    exact hr
  · rw [if_neg (fun q => e ((nI_eq (by omega) (by omega)).mp q)), dn_e, sh17_4 hs, dn_e, ln22 hl, as_e (by omega) (by decide)]
    have hs1 : SH (sI S 22 p (nI c)) := hs.sI _ _ _
    have hv1 : VP n (rF g p (nI c)) := rF_ok hv ⟨c, hc, rfl⟩
    have kk : LK ln N (sI S 22 p (nI c)) 17 n (rF g p (nI c)) o := by
      refine ⟨k1, by rw [hI_row (by decide), herB_rF]; exact k2, by rw [hI_row (by decide)]; exact k3, fun k hk j hj => ?_, ?_⟩
      · unfold xf
        by_cases q : k = 4 ∧ j = p
        · rw [q.1, q.2, rF_s]; exact hI_self _ _ _ _
        · rw [hI_ne (by omega)]
          unfold rF
          rw [if_neg q]; exact k4 k hk j hj
      · rcases k5 with u | ⟨q, t, c2, am, ham, e1, e2, e3⟩
        · exact Or.inl u
        · refine Or.inr ⟨q, t, c2, am, ham, e1, e2.ag (fun r k u => hI_row (by omega)) (fun _ _ _ => rfl) (fun k _ => hI_row (by omega)), ?_⟩
          rw [e3]
          congr 2
          funext i
          exact (hI_row (by omega)).symm
    rw [sh0_4 hs1, dn_e]
    refine p_workOut hs1 hl (Or.inr (Or.inr (Or.inl rfl))) kk hv1 h14 ha (fun S2 w2 => ?_)
    have hs2 : SH S2 := hs1.of (fun _ _ => w2.2.2.2 _ _)
    have kk2 := kk.ag (Or.inr (Or.inr (Or.inl rfl))) w2.1 w2.2.2.2
    rw [sh0_4 hs2, dn_e]
    refine p_workOut hs2 hl (Or.inr (Or.inr (Or.inl rfl))) kk2 hv1 h14 hc (fun S3 w3 => ?_)
    have kk3 := kk2.ag (Or.inr (Or.inr (Or.inl rfl))) w3.1 w3.2.2.2
    refine h S3 ⟨kk3, fun ch j u1 u2 => ?_⟩ ⟨fun r k u1 u2 u3 => by rw [w3.1 r k u2 u3, w2.1 r k u2 u3, hI_row u1], fun r k => by rw [w3.2.2.2, w2.2.2.2]; rfl⟩
    by_cases q1 : ch = c
    · subst q1; exact w3.2.2.1 j u2
    · rw [w3.2.1 _ (by omega)]
      by_cases q2 : ch = a
      · subst q2; exact w2.2.2.1 j u2
      · rw [w2.2.1 _ (by omega), hI_row (by decide), ht ch j u1 u2, ptT_rF (by rw [ga]; exact fun q => q2 ((nI_eq (by omega) (by omega)).mp q).symm) (fun q => q1 ((nI_eq (by omega) (by omega)).mp q).symm)]
def clK (n : Nat) (o : Option ((Nat → Int32) × Nat)) (g : Nat → Nat → Int32) : Int32 := nI (clI g (fun ch => ptT n g o (nI ch) n) n)
def rpI (n : Nat) (f : Nat → Nat → Int32) (o : Option ((Nat → Int32) × Nat)) (p : Nat) : Nat → Int32 × Int32 → Int32 × Int32
  | 0, G => G
  | c + 1, G => if nI c = f 4 p ∨ (rpI n f o p c G).2 ≤ clK n o (rF f p (nI c)) then rpI n f o p c G else (nI (10 * p + c), clK n o (rF f p (nI c)))
def rpO (n : Nat) (f : Nat → Nat → Int32) (o : Option ((Nat → Int32) × Nat)) : Nat → Int32 × Int32
  | 0 => (-1, clK n o f)
  | p + 1 => if f 1 p = -1 then rpI n f o p 8 (rpO n f o p) else rpO n f o p
def bX (b : Int32) : Int32 := if 0 ≤ b then b else -1000000005
theorem rpI_le {n : Nat} {f : Nat → Nat → Int32} {o : Option ((Nat → Int32) × Nat)} {p : Nat} {G : Int32 × Int32} {K : Int32} (h : G.2 ≤ K) : ∀ c, (rpI n f o p c G).2 ≤ K := by
  intro c
  induction c with
  | zero => exact h
  | succ c ih =>
    rw [rpI]
    by_cases q : nI c = f 4 p ∨ (rpI n f o p c G).2 ≤ clK n o (rF f p (nI c))
    · rw [if_pos q]; exact ih
    · rw [if_neg q]
      have q2 : ¬ (rpI n f o p c G).2 ≤ clK n o (rF f p (nI c)) := fun u => q (Or.inr u)
      dsimp only
      simp only [i_le] at *
      omega
theorem rpO_le {n : Nat} {f : Nat → Nat → Int32} {o : Option ((Nat → Int32) × Nat)} : ∀ p, (rpO n f o p).2 ≤ clK n o f := by
  intro p
  induction p with
  | zero => rw [rpO]; exact Int32.le_refl _
  | succ p ih =>
    rw [rpO]
    split
    · exact rpI_le ih 8
    · exact ih
theorem p_xrepaint {ln : Nat → Nat} {N : Nat} {S : HC} {n : Nat} {f : Nat → Nat → Int32} {o : Option ((Nat → Int32) × Nat)} {post : Int32 → HC → Prop} (hs : SH S) (hl : LN ln) (hr : RS ln N S n f o) (hv : VP n f) (h14 : n ≤ 14) (h : ∀ S', RP S S' → post (bX (rpO n f o n).1) S') : ∃ k, LX7_repaint_35 ln post k S 0 (clK n o f) (-1000000005) 0 := by
  have hb : LB 17 := Or.inr (Or.inr (Or.inl rfl))
  have key : ∀ m p S', p + m = n → RS ln N S' n f o → RP S S' → LX7_repaint_35 ln post (m + 1) S' 0 (rpO n f o p).2 (bX (rpO n f o p).1) (nI p) := by
    intro m
    induction m with
    | zero =>
      intro p S' hp hr' hd
      have e : p = n := by omega
      subst e
      rw [LX7_repaint_35]
      dsimp only
      rw [sh0_3 (hd.sh hs), dn_e, lt_e, hr'.1.2.2.1, if_pos (nI_le (by omega) (by omega))]
      exact h S' hd
    | succ m ih =>
      intro p S' hp hr' hd
      have hs' := hd.sh hs
      rw [LX7_repaint_35]
      dsimp only
      rw [sh0_3 hs', dn_e, lt_e, hr'.1.2.2.1, if_neg (nI_ge (by omega) (by omega)), dn_e, sh17_1 hs', dn_e, ln19 hl, al_e (by omega) (by decide), show hI S' 19 p = f 1 p from hr'.1.2.2.2.1 1 (by decide) p (by omega)]
      have nx := fun S2 q1 q2 => ih (p + 1) S2 (by omega) q1 q2
      unfold BX7_repaint_126
      by_cases q : f 1 p = -1
      · rw [if_pos q, dn_e, sh17_4 hs', dn_e, ln22 hl, al_e (by omega) (by decide), show hI S' 22 p = f 4 p from hr'.1.2.2.2.1 4 (by decide) p (by omega)]
        obtain ⟨a, ha, ea⟩ := hv.fst (j := p) (by omega)
        have le0 := rpO_le (n := n) (f := f) (o := o) p
        rw [rpO, if_pos q] at nx
        generalize rpO n f o p = G at nx le0 ⊢
        have inner : ∀ m2 c S2, c + m2 = 8 → RS ln N S2 n f o → RP S S2 → LX7_repaint_73 ln post (LX7_repaint_35 ln post (m + 1)) (m2 + 1) S2 0 (rpI n f o p c G).2 (bX (rpI n f o p c G).1) (nI p) (f 4 p) (nI c) := by
          intro m2
          induction m2 with
          | zero =>
            intro c S2 hc r2 d2
            have e : c = 8 := by omega
            subst e
            rw [LX7_repaint_73]
            dsimp only
            unfold BX7_repaint_126
            rw [if_pos (by decide), lt_e, nI_1]
            exact nx S2 r2 d2
          | succ m2 ih2 =>
            intro c S2 hc r2 d2
            have hs2 := d2.sh hs
            have k := fun S3 u1 u2 => ih2 (c + 1) S3 (by omega) u1 u2
            rw [rpI] at k
            have le1 := rpI_le (n := n) (f := f) (o := o) (p := p) le0 c
            generalize rpI n f o p c G = G1 at k le1 ⊢
            rw [LX7_repaint_73]
            dsimp only
            rw [if_neg (show ¬ (8 : Int32) ≤ nI c from nI_ge (b := 8) (by omega) (by decide))]
            refine p_repT hs2 hl r2 hv h14 (by omega) (by omega) ha ea (fun S3 r3 d3 => ?_)
            have hs3 := d3.sh hs2
            rw [sh0_4 hs3, dn_e]
            refine p_clashes hs3 hl hb r3.1 h14 r3.2 (fun ch j => ptT_ok _ j) (fun S4 g1 g2 => ?_)
            have hs4 : SH S4 := hs3.of (fun _ _ => g2 _ _)
            have d4 : RP S3 S4 := ⟨fun r k _ _ _ => g1 r k, g2⟩
            have r4 : RS ln N S4 n (rF f p (nI c)) o := ⟨r3.1.ag hb (fun q k _ _ => g1 q k) g2, fun ch j u1 u2 => by rw [g1]; exact r3.2 ch j u1 u2⟩
            have back : ∀ {b1 b2 : Int32}, (∀ S3, RS ln N S3 n f o → RP S S3 → LX7_repaint_73 ln post (LX7_repaint_35 ln post (m + 1)) (m2 + 1) S3 0 b1 b2 (nI p) (f 4 p) (nI (c + 1))) → BX7_repaint_113 ln post (LX7_repaint_35 ln post (m + 1)) (LX7_repaint_73 ln post (LX7_repaint_35 ln post (m + 1)) (m2 + 1)) S4 0 b1 b2 (nI p) (f 4 p) (nI c) := fun kx => by
              unfold BX7_repaint_113
              rw [ea] at kx ⊢
              refine p_repT hs4 hl r4 (rF_ok hv ⟨c, by omega, rfl⟩) h14 (by omega) ha (by omega) rF_s (fun S5 r5 d5 => ?_)
              rw [lt_e, nI_1]
              refine kx S5 ?_ (((d2.tr d3).tr d4).tr d5)
              rw [rF_rF, rF_id ea] at r5
              exact r5
            show (if G1.2 ≤ clK n o (rF f p (nI c)) then _ else _)
            by_cases q1 : nI c = f 4 p
            · rw [if_pos (Or.inl q1)] at k
              rw [if_pos (by rw [rF_id q1.symm]; exact le1)]
              exact back k
            · by_cases q2 : G1.2 ≤ clK n o (rF f p (nI c))
              · rw [if_pos (Or.inr q2)] at k
                rw [if_pos q2]
                exact back k
              · rw [if_neg (fun u => u.elim q1 q2)] at k
                rw [if_neg q2, lt_e, lt_e, show (10 : Int32) * nI p = nI (10 * p) from pk_mul 10 p, nI_add]
                refine back ?_
                have eb : bX (nI (10 * p + c)) = nI (10 * p + c) := if_pos (nI_pos' (by omega))
                dsimp only at k
                rw [eb] at k
                exact k
        exact ⟨9, inner 8 0 S' (by omega) hr' hd⟩
      · rw [if_neg q, lt_e, nI_1]
        rw [rpO, if_neg q] at nx
        exact nx S' hr' hd
  exact ⟨n + 1, key n 0 S (by omega) hr (RP.rf S)⟩
