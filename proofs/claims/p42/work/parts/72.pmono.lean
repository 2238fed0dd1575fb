/-! what is wanted behind a call may be weakened (printed by a program out of the definitions) -/
theorem m_lt {α : Type} {v : α} {K K' : α → Prop} (h : ∀ v, K v → K' v) : lt_ v K → lt_ v K' := h v
theorem m_dn {o : Option Nat} {K K' : Nat → Prop} (h : ∀ v, K v → K' v) : dn_ o K → dn_ o K' := fun ⟨b, e, k⟩ => ⟨b, e, h b k⟩
theorem m_al {α : Type} {n : Nat} {i : Int32} {f : Nat → α} {K K' : α → Prop} (h : ∀ v, K v → K' v) : al_ n i f K → al_ n i f K' := fun k => ⟨k.1, h _ k.2⟩
theorem m_as {n : Nat} {i : Int32} {f : Nat → HC} {K K' : HC → Prop} (h : ∀ v, K v → K' v) : as_ n i f K → as_ n i f K' := fun k => ⟨k.1, h _ k.2⟩
theorem m_cO {o : Option Nat} {A A' : Prop} {B B' : Nat → Prop} (h : A → A') (h2 : ∀ b, B b → B' b) : cO_ o A B → cO_ o A' B' := by
  cases o with
  | none => rw [cO_n, cO_n]; exact h
  | some b => rw [cO_s, cO_s]; exact h2 b
theorem m_rb {ty : FieldType} {v : Int32} {K K' : Prop} (h : K → K') : rb_ ty v K → rb_ ty v K' := fun k => ⟨k.1, h k.2⟩
theorem m_ne {y : Int32} {K K' : Prop} (h : K → K') : ne_ y K → ne_ y K' := fun k => ⟨k.1, h k.2⟩
theorem m_ite {c A A' B B' : Prop} [Decidable c] (h : A → A') (h2 : B → B') : (if c then A else B) → (if c then A' else B') := by
  by_cases q : c
  · rw [if_pos q, if_pos q]; exact h
  · rw [if_neg q, if_neg q]; exact h2
theorem m_cp {ln : Nat → Nat} {S : HC} {r1 r2 : Nat} {sp dp n : Int32} {K K' : HC → Prop} (h : ∀ v, K v → K' v) : cp_ ln S r1 sp r2 dp n K → cp_ ln S r1 sp r2 dp n K' := fun k => ⟨k.1, k.2.1, h _ k.2.2⟩
theorem m_ex {P P' : Nat → Prop} (h : ∀ n, P n → P' n) : (∃ n, P n) → ∃ n, P' n := fun ⟨n, k⟩ => ⟨n, h n k⟩
theorem mm_BX0_has_22 {ln : Nat → Nat} {S : HC} {post post' : Int32 → HC → Prop} (h_post : ∀ u0 u1, post u0 u1 → post' u0 u1) : BX0_has_22 ln post S → BX0_has_22 ln post' S := by
  unfold BX0_has_22
  repeat' (first | with_reducible exact id | with_reducible exact h_post _ _ | with_reducible refine m_rb ?_)
theorem mm_wpX0_has {ln : Nat → Nat} {S : HC} {a0 : Nat} {a1 : Int32} {post post' : Int32 → HC → Prop} (h_post : ∀ u0 u1, post u0 u1 → post' u0 u1) : wpX0_has ln S a0 a1 post → wpX0_has ln S a0 a1 post' := by
  unfold wpX0_has
  repeat' (first | with_reducible exact id | with_reducible exact h_post _ _ | with_reducible refine m_lt (fun _ => ?_) | with_reducible refine m_rb ?_ | with_reducible refine m_ite ?_ ?_ | with_reducible refine mm_BX0_has_22 (fun _ _ => ?_))
theorem mm_BX0_hasRoom_20 {ln : Nat → Nat} {S : HC} {post post' : Int32 → HC → Prop} (h_post : ∀ u0 u1, post u0 u1 → post' u0 u1) : BX0_hasRoom_20 ln post S → BX0_hasRoom_20 ln post' S := by
  unfold BX0_hasRoom_20
  repeat' (first | with_reducible exact id | with_reducible exact h_post _ _ | with_reducible refine m_rb ?_)
theorem mm_wpX0_hasRoom {ln : Nat → Nat} {S : HC} {a0 : Nat} {post post' : Int32 → HC → Prop} (h_post : ∀ u0 u1, post u0 u1 → post' u0 u1) : wpX0_hasRoom ln S a0 post → wpX0_hasRoom ln S a0 post' := by
  unfold wpX0_hasRoom
  repeat' (first | with_reducible exact id | with_reducible exact h_post _ _ | with_reducible refine m_lt (fun _ => ?_) | with_reducible refine m_rb ?_ | with_reducible refine m_ite ?_ ?_ | with_reducible refine mm_BX0_hasRoom_20 (fun _ _ => ?_))
theorem mm_BX0_canBeParent_27 {ln : Nat → Nat} {S : HC} {post post' : Int32 → HC → Prop} (h_post : ∀ u0 u1, post u0 u1 → post' u0 u1) : BX0_canBeParent_27 ln post S → BX0_canBeParent_27 ln post' S := by
  unfold BX0_canBeParent_27
  repeat' (first | with_reducible exact id | with_reducible exact h_post _ _ | with_reducible refine m_rb ?_)
theorem mm_BX0_canBeParent_23 {ln : Nat → Nat} {S : HC} {post post' : Int32 → HC → Prop} (h_post : ∀ u0 u1, post u0 u1 → post' u0 u1) : BX0_canBeParent_23 ln post S → BX0_canBeParent_23 ln post' S := by
  unfold BX0_canBeParent_23
  repeat' (first | with_reducible exact id | with_reducible exact h_post _ _ | with_reducible refine m_rb ?_)
theorem mm_wpX0_canBeParent {ln : Nat → Nat} {S : HC} {a0 : Nat} {a1 : Int32} {a2 : Int32} {post post' : Int32 → HC → Prop} (h_post : ∀ u0 u1, post u0 u1 → post' u0 u1) : wpX0_canBeParent ln S a0 a1 a2 post → wpX0_canBeParent ln S a0 a1 a2 post' := by
  unfold wpX0_canBeParent
  repeat' (first | with_reducible exact id | with_reducible exact h_post _ _ | with_reducible refine m_dn (fun _ => ?_) | with_reducible refine m_al (fun _ => ?_) | with_reducible refine m_ite ?_ ?_ | with_reducible refine mm_BX0_canBeParent_23 (fun _ _ => ?_) | with_reducible refine mm_wpX0_has (fun _ _ => ?_) | with_reducible refine mm_BX0_canBeParent_27 (fun _ _ => ?_))
theorem mm_wpX0_add {ln : Nat → Nat} {S : HC} {a0 : Nat} {a1 : Int32} {a2 : Int32} {a3 : Int32} {a4 : Int32} {a5 : Int32} {post post' : Int32 → HC → Prop} (h_post : ∀ u0 u1, post u0 u1 → post' u0 u1) : wpX0_add ln S a0 a1 a2 a3 a4 a5 post → wpX0_add ln S a0 a1 a2 a3 a4 a5 post' := by
  unfold wpX0_add
  repeat' (first | with_reducible exact id | with_reducible exact h_post _ _ | with_reducible refine m_lt (fun _ => ?_) | with_reducible refine m_dn (fun _ => ?_) | with_reducible refine m_as (fun _ => ?_) | with_reducible refine m_ite ?_ ?_ | with_reducible refine mm_wpX0_hasRoom (fun _ _ => ?_))
theorem mm_wpX0_draw {ln : Nat → Nat} {S : HC} {a0 : Nat} {post post' : Int32 → HC → Prop} (h_post : ∀ u0 u1, post u0 u1 → post' u0 u1) : wpX0_draw ln S a0 post → wpX0_draw ln S a0 post' := by
  unfold wpX0_draw
  repeat' (first | with_reducible exact id | with_reducible exact h_post _ _ | with_reducible refine m_lt (fun _ => ?_))
theorem mm_wpX0_drawFounder {ln : Nat → Nat} {S : HC} {a0 : Nat} {post post' : HC → Prop} (h_post : ∀ u0, post u0 → post' u0) : wpX0_drawFounder ln S a0 post → wpX0_drawFounder ln S a0 post' := by
  unfold wpX0_drawFounder
  repeat' (first | with_reducible exact id | with_reducible exact h_post _ | with_reducible refine m_lt (fun _ => ?_) | with_reducible refine m_ne ?_ | with_reducible refine mm_wpX0_draw (fun _ _ => ?_) | with_reducible refine mm_wpX0_add (fun _ _ => ?_))
theorem mm_BX0_howMany_25 {ln : Nat → Nat} {S : HC} {x0 : Nat} {x1 : Int32} {x2 : Int32} {x3 : Int32} {post post' : Int32 → HC → Prop} {K4 K4' : HC → Nat → Int32 → Int32 → Int32 → Prop} (h_post : ∀ u0 u1, post u0 u1 → post' u0 u1) (h_K4 : ∀ u0 u1 u2 u3 u4, K4 u0 u1 u2 u3 u4 → K4' u0 u1 u2 u3 u4) : BX0_howMany_25 ln post K4 S x0 x1 x2 x3 → BX0_howMany_25 ln post' K4' S x0 x1 x2 x3 := by
  unfold BX0_howMany_25
  repeat' (first | with_reducible exact id | with_reducible exact h_post _ _ | with_reducible exact h_K4 _ _ _ _ _ | with_reducible refine m_lt (fun _ => ?_))
theorem mm_LX0_howMany_4 {ln : Nat → Nat} {post post' : Int32 → HC → Prop} (h_post : ∀ u0 u1, post u0 u1 → post' u0 u1) : ∀ n v0 v1 v2 v3 v4, LX0_howMany_4 ln post n v0 v1 v2 v3 v4 → LX0_howMany_4 ln post' n v0 v1 v2 v3 v4 := by
  intro n
  induction n with
  | zero => intros; assumption
  | succ n ih =>
    intro v0 v1 v2 v3 v4
    rw [LX0_howMany_4, LX0_howMany_4]
    dsimp only
    repeat' (first | with_reducible exact id | with_reducible exact h_post _ _ | with_reducible exact ih _ _ _ _ _ | with_reducible refine m_lt (fun _ => ?_) | with_reducible refine m_dn (fun _ => ?_) | with_reducible refine m_al (fun _ => ?_) | with_reducible refine m_ite ?_ ?_ | with_reducible refine mm_BX0_howMany_25 (fun _ _ => ?_) (fun _ _ _ _ _ => ?_))
theorem mm_wpX0_howMany {ln : Nat → Nat} {S : HC} {a0 : Nat} {a1 : Int32} {post post' : Int32 → HC → Prop} (h_post : ∀ u0 u1, post u0 u1 → post' u0 u1) : wpX0_howMany ln S a0 a1 post → wpX0_howMany ln S a0 a1 post' := by
  unfold wpX0_howMany
  repeat' (first | with_reducible exact id | with_reducible exact h_post _ _ | with_reducible refine m_ex (fun _ => ?_) | with_reducible refine mm_LX0_howMany_4 (fun _ _ => ?_) _ _ _ _ _ _)
theorem mm_BX0_nthOf_35 {ln : Nat → Nat} {S : HC} {x0 : Nat} {x1 : Int32} {x3 : Int32} {x4 : Int32} {post post' : Int32 → HC → Prop} {K5 K5' : HC → Nat → Int32 → Int32 → Int32 → Prop} (h_post : ∀ u0 u1, post u0 u1 → post' u0 u1) (h_K5 : ∀ u0 u1 u2 u3 u4, K5 u0 u1 u2 u3 u4 → K5' u0 u1 u2 u3 u4) : BX0_nthOf_35 ln post K5 S x0 x1 x3 x4 → BX0_nthOf_35 ln post' K5' S x0 x1 x3 x4 := by
  unfold BX0_nthOf_35
  repeat' (first | with_reducible exact id | with_reducible exact h_post _ _ | with_reducible exact h_K5 _ _ _ _ _ | with_reducible refine m_lt (fun _ => ?_))
theorem mm_LX0_nthOf_5 {ln : Nat → Nat} {post post' : Int32 → HC → Prop} (h_post : ∀ u0 u1, post u0 u1 → post' u0 u1) : ∀ n v0 v1 v2 v3 v4, LX0_nthOf_5 ln post n v0 v1 v2 v3 v4 → LX0_nthOf_5 ln post' n v0 v1 v2 v3 v4 := by
  intro n
  induction n with
  | zero => intros; assumption
  | succ n ih =>
    intro v0 v1 v2 v3 v4
    rw [LX0_nthOf_5, LX0_nthOf_5]
    dsimp only
    repeat' (first | with_reducible exact id | with_reducible exact h_post _ _ | with_reducible exact ih _ _ _ _ _ | with_reducible refine m_lt (fun _ => ?_) | with_reducible refine m_dn (fun _ => ?_) | with_reducible refine m_al (fun _ => ?_) | with_reducible refine m_ite ?_ ?_ | with_reducible refine mm_BX0_nthOf_35 (fun _ _ => ?_) (fun _ _ _ _ _ => ?_))
theorem mm_wpX0_nthOf {ln : Nat → Nat} {S : HC} {a0 : Nat} {a1 : Int32} {a2 : Int32} {post post' : Int32 → HC → Prop} (h_post : ∀ u0 u1, post u0 u1 → post' u0 u1) : wpX0_nthOf ln S a0 a1 a2 post → wpX0_nthOf ln S a0 a1 a2 post' := by
  unfold wpX0_nthOf
  repeat' (first | with_reducible exact id | with_reducible exact h_post _ _ | with_reducible refine m_ex (fun _ => ?_) | with_reducible refine mm_LX0_nthOf_5 (fun _ _ => ?_) _ _ _ _ _ _)
theorem mm_BX0_bringForth_22 {ln : Nat → Nat} {S : HC} {post post' : Int32 → HC → Prop} (h_post : ∀ u0 u1, post u0 u1 → post' u0 u1) : BX0_bringForth_22 ln post S → BX0_bringForth_22 ln post' S := by
  unfold BX0_bringForth_22
  repeat' (first | with_reducible exact id | with_reducible exact h_post _ _ | with_reducible refine m_rb ?_)
theorem mm_wpX0_bringForth {ln : Nat → Nat} {S : HC} {a0 : Nat} {post post' : Int32 → HC → Prop} (h_post : ∀ u0 u1, post u0 u1 → post' u0 u1) : wpX0_bringForth ln S a0 post → wpX0_bringForth ln S a0 post' := by
  unfold wpX0_bringForth
  repeat' (first | with_reducible exact id | with_reducible exact h_post _ _ | with_reducible refine m_lt (fun _ => ?_) | with_reducible refine m_rb ?_ | with_reducible refine m_ne ?_ | with_reducible refine m_ite ?_ ?_ | with_reducible refine mm_wpX0_howMany (fun _ _ => ?_) | with_reducible refine mm_BX0_bringForth_22 (fun _ _ => ?_) | with_reducible refine mm_wpX0_draw (fun _ _ => ?_) | with_reducible refine mm_wpX0_nthOf (fun _ _ => ?_) | with_reducible refine mm_wpX0_add (fun _ _ => ?_))
theorem mm_BX0_passYear_52 {ln : Nat → Nat} {S : HC} {post post' : Int32 → HC → Prop} (h_post : ∀ u0 u1, post u0 u1 → post' u0 u1) : BX0_passYear_52 ln post S → BX0_passYear_52 ln post' S := by
  unfold BX0_passYear_52
  repeat' (first | with_reducible exact id | with_reducible exact h_post _ _ | with_reducible refine m_rb ?_)
theorem mm_BX0_passYear_19 {ln : Nat → Nat} {S : HC} {x0 : Nat} {t0 : Int32} {post post' : Int32 → HC → Prop} (h_post : ∀ u0 u1, post u0 u1 → post' u0 u1) : BX0_passYear_19 ln post S x0 t0 → BX0_passYear_19 ln post' S x0 t0 := by
  unfold BX0_passYear_19
  repeat' (first | with_reducible exact id | with_reducible exact h_post _ _ | with_reducible refine m_lt (fun _ => ?_) | with_reducible refine m_rb ?_ | with_reducible refine m_ite ?_ ?_ | with_reducible refine mm_BX0_passYear_52 (fun _ _ => ?_) | with_reducible refine mm_wpX0_hasRoom (fun _ _ => ?_) | with_reducible refine mm_wpX0_bringForth (fun _ _ => ?_))
theorem mm_wpX0_passYear {ln : Nat → Nat} {S : HC} {a0 : Nat} {post post' : Int32 → HC → Prop} (h_post : ∀ u0 u1, post u0 u1 → post' u0 u1) : wpX0_passYear ln S a0 post → wpX0_passYear ln S a0 post' := by
  unfold wpX0_passYear
  repeat' (first | with_reducible exact id | with_reducible exact h_post _ _ | with_reducible refine m_lt (fun _ => ?_) | with_reducible refine m_ne ?_ | with_reducible refine m_ite ?_ ?_ | with_reducible refine mm_wpX0_draw (fun _ _ => ?_) | with_reducible refine mm_BX0_passYear_19 (fun _ _ => ?_))
theorem mm_BX0_founders_25 {ln : Nat → Nat} {S : HC} {x0 : Nat} {x1 : Int32} {x2 : Int32} {post post' : Int32 → HC → Prop} {K4 K4' : HC → Nat → Int32 → Int32 → Prop} (h_post : ∀ u0 u1, post u0 u1 → post' u0 u1) (h_K4 : ∀ u0 u1 u2 u3, K4 u0 u1 u2 u3 → K4' u0 u1 u2 u3) : BX0_founders_25 ln post K4 S x0 x1 x2 → BX0_founders_25 ln post' K4' S x0 x1 x2 := by
  unfold BX0_founders_25
  repeat' (first | with_reducible exact id | with_reducible exact h_post _ _ | with_reducible exact h_K4 _ _ _ _ | with_reducible refine m_lt (fun _ => ?_))
theorem mm_LX0_founders_4 {ln : Nat → Nat} {post post' : Int32 → HC → Prop} (h_post : ∀ u0 u1, post u0 u1 → post' u0 u1) : ∀ n v0 v1 v2 v3, LX0_founders_4 ln post n v0 v1 v2 v3 → LX0_founders_4 ln post' n v0 v1 v2 v3 := by
  intro n
  induction n with
  | zero => intros; assumption
  | succ n ih =>
    intro v0 v1 v2 v3
    rw [LX0_founders_4, LX0_founders_4]
    dsimp only
    repeat' (first | with_reducible exact id | with_reducible exact h_post _ _ | with_reducible exact ih _ _ _ _ | with_reducible refine m_lt (fun _ => ?_) | with_reducible refine m_dn (fun _ => ?_) | with_reducible refine m_al (fun _ => ?_) | with_reducible refine m_ite ?_ ?_ | with_reducible refine mm_BX0_founders_25 (fun _ _ => ?_) (fun _ _ _ _ => ?_))
theorem mm_wpX0_founders {ln : Nat → Nat} {S : HC} {a0 : Nat} {post post' : Int32 → HC → Prop} (h_post : ∀ u0 u1, post u0 u1 → post' u0 u1) : wpX0_founders ln S a0 post → wpX0_founders ln S a0 post' := by
  unfold wpX0_founders
  repeat' (first | with_reducible exact id | with_reducible exact h_post _ _ | with_reducible refine m_ex (fun _ => ?_) | with_reducible refine mm_LX0_founders_4 (fun _ _ => ?_) _ _ _ _ _)
theorem mm_BX0_isHeiress_68 {ln : Nat → Nat} {S : HC} {x0 : Nat} {x1 : Int32} {x2 : Int32} {post post' : Int32 → HC → Prop} {K34 K34' : HC → Nat → Int32 → Int32 → Prop} (h_post : ∀ u0 u1, post u0 u1 → post' u0 u1) (h_K34 : ∀ u0 u1 u2 u3, K34 u0 u1 u2 u3 → K34' u0 u1 u2 u3) : BX0_isHeiress_68 ln post K34 S x0 x1 x2 → BX0_isHeiress_68 ln post' K34' S x0 x1 x2 := by
  unfold BX0_isHeiress_68
  repeat' (first | with_reducible exact id | with_reducible exact h_post _ _ | with_reducible exact h_K34 _ _ _ _ | with_reducible refine m_lt (fun _ => ?_))
theorem mm_LX0_isHeiress_34 {ln : Nat → Nat} {post post' : Int32 → HC → Prop} (h_post : ∀ u0 u1, post u0 u1 → post' u0 u1) : ∀ n v0 v1 v2 v3, LX0_isHeiress_34 ln post n v0 v1 v2 v3 → LX0_isHeiress_34 ln post' n v0 v1 v2 v3 := by
  intro n
  induction n with
  | zero => intros; assumption
  | succ n ih =>
    intro v0 v1 v2 v3
    rw [LX0_isHeiress_34, LX0_isHeiress_34]
    dsimp only
    repeat' (first | with_reducible exact id | with_reducible exact h_post _ _ | with_reducible exact ih _ _ _ _ | with_reducible refine m_lt (fun _ => ?_) | with_reducible refine m_dn (fun _ => ?_) | with_reducible refine m_al (fun _ => ?_) | with_reducible refine m_rb ?_ | with_reducible refine m_ite ?_ ?_ | with_reducible refine mm_BX0_isHeiress_68 (fun _ _ => ?_) (fun _ _ _ _ => ?_))
theorem mm_BX0_isHeiress_18 {ln : Nat → Nat} {S : HC} {post post' : Int32 → HC → Prop} (h_post : ∀ u0 u1, post u0 u1 → post' u0 u1) : BX0_isHeiress_18 ln post S → BX0_isHeiress_18 ln post' S := by
  unfold BX0_isHeiress_18
  repeat' (first | with_reducible exact id | with_reducible exact h_post _ _ | with_reducible refine m_rb ?_)
theorem mm_wpX0_isHeiress {ln : Nat → Nat} {S : HC} {a0 : Nat} {a1 : Int32} {post post' : Int32 → HC → Prop} (h_post : ∀ u0 u1, post u0 u1 → post' u0 u1) : wpX0_isHeiress ln S a0 a1 post → wpX0_isHeiress ln S a0 a1 post' := by
  unfold wpX0_isHeiress
  repeat' (first | with_reducible exact id | with_reducible exact h_post _ _ | with_reducible refine m_dn (fun _ => ?_) | with_reducible refine m_al (fun _ => ?_) | with_reducible refine m_rb ?_ | with_reducible refine m_ite ?_ ?_ | with_reducible refine m_ex (fun _ => ?_) | with_reducible refine mm_wpX0_has (fun _ _ => ?_) | with_reducible refine mm_BX0_isHeiress_18 (fun _ _ => ?_) | with_reducible refine mm_LX0_isHeiress_34 (fun _ _ => ?_) _ _ _ _ _)
theorem mm_BX0_heiresses_26 {ln : Nat → Nat} {S : HC} {x0 : Nat} {x1 : Int32} {x2 : Int32} {post post' : Int32 → HC → Prop} {K4 K4' : HC → Nat → Int32 → Int32 → Prop} (h_post : ∀ u0 u1, post u0 u1 → post' u0 u1) (h_K4 : ∀ u0 u1 u2 u3, K4 u0 u1 u2 u3 → K4' u0 u1 u2 u3) : BX0_heiresses_26 ln post K4 S x0 x1 x2 → BX0_heiresses_26 ln post' K4' S x0 x1 x2 := by
  unfold BX0_heiresses_26
  repeat' (first | with_reducible exact id | with_reducible exact h_post _ _ | with_reducible exact h_K4 _ _ _ _ | with_reducible refine m_lt (fun _ => ?_))
theorem mm_LX0_heiresses_4 {ln : Nat → Nat} {post post' : Int32 → HC → Prop} (h_post : ∀ u0 u1, post u0 u1 → post' u0 u1) : ∀ n v0 v1 v2 v3, LX0_heiresses_4 ln post n v0 v1 v2 v3 → LX0_heiresses_4 ln post' n v0 v1 v2 v3 := by
  intro n
  induction n with
  | zero => intros; assumption
  | succ n ih =>
    intro v0 v1 v2 v3
    rw [LX0_heiresses_4, LX0_heiresses_4]
    dsimp only
    repeat' (first | with_reducible exact id | with_reducible exact h_post _ _ | with_reducible exact ih _ _ _ _ | with_reducible refine m_lt (fun _ => ?_) | with_reducible refine m_ite ?_ ?_ | with_reducible refine mm_wpX0_isHeiress (fun _ _ => ?_) | with_reducible refine mm_BX0_heiresses_26 (fun _ _ => ?_) (fun _ _ _ _ => ?_))
theorem mm_wpX0_heiresses {ln : Nat → Nat} {S : HC} {a0 : Nat} {post post' : Int32 → HC → Prop} (h_post : ∀ u0 u1, post u0 u1 → post' u0 u1) : wpX0_heiresses ln S a0 post → wpX0_heiresses ln S a0 post' := by
  unfold wpX0_heiresses
  repeat' (first | with_reducible exact id | with_reducible exact h_post _ _ | with_reducible refine m_ex (fun _ => ?_) | with_reducible refine mm_LX0_heiresses_4 (fun _ _ => ?_) _ _ _ _ _)
theorem mm_wpX0_bitOf {ln : Nat → Nat} {S : HC} {a0 : Int32} {post post' : Int32 → HC → Prop} (h_post : ∀ u0 u1, post u0 u1 → post' u0 u1) : wpX0_bitOf ln S a0 post → wpX0_bitOf ln S a0 post' := by
  unfold wpX0_bitOf
  repeat' (first | with_reducible exact id | with_reducible exact h_post _ _ | with_reducible refine m_lt (fun _ => ?_) | with_reducible refine m_ite ?_ ?_)
theorem mm_BX0_oldestFounder_84 {ln : Nat → Nat} {S : HC} {x0 : Nat} {x2 : Int32} {x3 : Int32} {x4 : Int32} {x5 : Int32} {post post' : Int32 → HC → Prop} {K10 K10' : HC → Nat → Int32 → Int32 → Int32 → Int32 → Prop} (h_post : ∀ u0 u1, post u0 u1 → post' u0 u1) (h_K10 : ∀ u0 u1 u2 u3 u4 u5, K10 u0 u1 u2 u3 u4 u5 → K10' u0 u1 u2 u3 u4 u5) : BX0_oldestFounder_84 ln post K10 S x0 x2 x3 x4 x5 → BX0_oldestFounder_84 ln post' K10' S x0 x2 x3 x4 x5 := by
  unfold BX0_oldestFounder_84
  repeat' (first | with_reducible exact id | with_reducible exact h_post _ _ | with_reducible exact h_K10 _ _ _ _ _ _ | with_reducible refine m_lt (fun _ => ?_))
theorem mm_BX0_oldestFounder_60 {ln : Nat → Nat} {S : HC} {x0 : Nat} {x2 : Int32} {x3 : Int32} {x4 : Int32} {x5 : Int32} {post post' : Int32 → HC → Prop} {K10 K10' : HC → Nat → Int32 → Int32 → Int32 → Int32 → Prop} (h_post : ∀ u0 u1, post u0 u1 → post' u0 u1) (h_K10 : ∀ u0 u1 u2 u3 u4 u5, K10 u0 u1 u2 u3 u4 u5 → K10' u0 u1 u2 u3 u4 u5) : BX0_oldestFounder_60 ln post K10 S x0 x2 x3 x4 x5 → BX0_oldestFounder_60 ln post' K10' S x0 x2 x3 x4 x5 := by
  unfold BX0_oldestFounder_60
  repeat' (first | with_reducible exact id | with_reducible exact h_post _ _ | with_reducible exact h_K10 _ _ _ _ _ _ | with_reducible refine m_lt (fun _ => ?_) | with_reducible refine m_dn (fun _ => ?_) | with_reducible refine m_al (fun _ => ?_) | with_reducible refine mm_wpX0_bitOf (fun _ _ => ?_) | with_reducible refine mm_BX0_oldestFounder_84 (fun _ _ => ?_) (fun _ _ _ _ _ _ => ?_))
theorem mm_LX0_oldestFounder_10 {ln : Nat → Nat} {post post' : Int32 → HC → Prop} (h_post : ∀ u0 u1, post u0 u1 → post' u0 u1) : ∀ n v0 v1 v2 v3 v4 v5, LX0_oldestFounder_10 ln post n v0 v1 v2 v3 v4 v5 → LX0_oldestFounder_10 ln post' n v0 v1 v2 v3 v4 v5 := by
  intro n
  induction n with
  | zero => intros; assumption
  | succ n ih =>
    intro v0 v1 v2 v3 v4 v5
    rw [LX0_oldestFounder_10, LX0_oldestFounder_10]
    dsimp only
    repeat' (first | with_reducible exact id | with_reducible exact h_post _ _ | with_reducible exact ih _ _ _ _ _ _ | with_reducible refine m_lt (fun _ => ?_) | with_reducible refine m_dn (fun _ => ?_) | with_reducible refine m_al (fun _ => ?_) | with_reducible refine m_ite ?_ ?_ | with_reducible refine mm_wpX0_has (fun _ _ => ?_) | with_reducible refine mm_BX0_oldestFounder_84 (fun _ _ => ?_) (fun _ _ _ _ _ _ => ?_) | with_reducible refine mm_BX0_oldestFounder_60 (fun _ _ => ?_) (fun _ _ _ _ _ _ => ?_))
theorem mm_wpX0_oldestFounder {ln : Nat → Nat} {S : HC} {a0 : Nat} {a1 : Int32} {a2 : Int32} {post post' : Int32 → HC → Prop} (h_post : ∀ u0 u1, post u0 u1 → post' u0 u1) : wpX0_oldestFounder ln S a0 a1 a2 post → wpX0_oldestFounder ln S a0 a1 a2 post' := by
  unfold wpX0_oldestFounder
  repeat' (first | with_reducible exact id | with_reducible exact h_post _ _ | with_reducible refine m_lt (fun _ => ?_) | with_reducible refine m_ex (fun _ => ?_) | with_reducible refine mm_LX0_oldestFounder_10 (fun _ _ => ?_) _ _ _ _ _ _ _)
theorem mm_BX0_lastLaw_40 {ln : Nat → Nat} {S : HC} {x0 : Nat} {x1 : Int32} {x2 : Int32} {post post' : Int32 → HC → Prop} {K12 K12' : HC → Nat → Int32 → Int32 → Prop} (h_post : ∀ u0 u1, post u0 u1 → post' u0 u1) (h_K12 : ∀ u0 u1 u2 u3, K12 u0 u1 u2 u3 → K12' u0 u1 u2 u3) : BX0_lastLaw_40 ln post K12 S x0 x1 x2 → BX0_lastLaw_40 ln post' K12' S x0 x1 x2 := by
  unfold BX0_lastLaw_40
  repeat' (first | with_reducible exact id | with_reducible exact h_post _ _ | with_reducible exact h_K12 _ _ _ _ | with_reducible refine m_lt (fun _ => ?_))
theorem mm_LX0_lastLaw_12 {ln : Nat → Nat} {post post' : Int32 → HC → Prop} (h_post : ∀ u0 u1, post u0 u1 → post' u0 u1) : ∀ n v0 v1 v2 v3, LX0_lastLaw_12 ln post n v0 v1 v2 v3 → LX0_lastLaw_12 ln post' n v0 v1 v2 v3 := by
  intro n
  induction n with
  | zero => intros; assumption
  | succ n ih =>
    intro v0 v1 v2 v3
    rw [LX0_lastLaw_12, LX0_lastLaw_12]
    dsimp only
    repeat' (first | with_reducible exact id | with_reducible exact h_post _ _ | with_reducible exact ih _ _ _ _ | with_reducible refine m_lt (fun _ => ?_) | with_reducible refine m_dn (fun _ => ?_) | with_reducible refine m_al (fun _ => ?_) | with_reducible refine m_cO ?_ (fun _ => ?_) | with_reducible refine m_ite ?_ ?_ | with_reducible refine mm_BX0_lastLaw_40 (fun _ _ => ?_) (fun _ _ _ _ => ?_))
theorem mm_wpX0_lastLaw {ln : Nat → Nat} {S : HC} {a0 : Nat} {a1 : Int32} {post post' : Int32 → HC → Prop} (h_post : ∀ u0 u1, post u0 u1 → post' u0 u1) : wpX0_lastLaw ln S a0 a1 post → wpX0_lastLaw ln S a0 a1 post' := by
  unfold wpX0_lastLaw
  repeat' (first | with_reducible exact id | with_reducible exact h_post _ _ | with_reducible refine m_lt (fun _ => ?_) | with_reducible refine m_ite ?_ ?_ | with_reducible refine m_ex (fun _ => ?_) | with_reducible refine mm_LX0_lastLaw_12 (fun _ _ => ?_) _ _ _ _ _)
theorem mm_wpX0_lawFor {ln : Nat → Nat} {S : HC} {a0 : Nat} {a1 : Int32} {post post' : Option Nat → HC → Prop} (h_post : ∀ u0 u1, post u0 u1 → post' u0 u1) : wpX0_lawFor ln S a0 a1 post → wpX0_lawFor ln S a0 a1 post' := by
  unfold wpX0_lawFor
  repeat' (first | with_reducible exact id | with_reducible exact h_post _ _ | with_reducible refine m_dn (fun _ => ?_) | with_reducible refine m_al (fun _ => ?_) | with_reducible refine m_ite ?_ ?_ | with_reducible refine mm_wpX0_lastLaw (fun _ _ => ?_))
theorem mm_LX0_become_120 {ln : Nat → Nat} {post post' : HC → Prop} (h_post : ∀ u0, post u0 → post' u0) : ∀ n v0 v1 v2 v3, LX0_become_120 ln post n v0 v1 v2 v3 → LX0_become_120 ln post' n v0 v1 v2 v3 := by
  intro n
  induction n with
  | zero => intros; assumption
  | succ n ih =>
    intro v0 v1 v2 v3
    rw [LX0_become_120, LX0_become_120]
    dsimp only
    repeat' (first | with_reducible exact id | with_reducible exact h_post _ | with_reducible exact ih _ _ _ _ | with_reducible refine m_lt (fun _ => ?_) | with_reducible refine m_dn (fun _ => ?_) | with_reducible refine m_al (fun _ => ?_) | with_reducible refine m_as (fun _ => ?_) | with_reducible refine m_ite ?_ ?_)
theorem mm_LX0_become_2 {ln : Nat → Nat} {post post' : HC → Prop} (h_post : ∀ u0, post u0 → post' u0) : ∀ n v0 v1 v2 v3, LX0_become_2 ln post n v0 v1 v2 v3 → LX0_become_2 ln post' n v0 v1 v2 v3 := by
  intro n
  induction n with
  | zero => intros; assumption
  | succ n ih =>
    intro v0 v1 v2 v3
    rw [LX0_become_2, LX0_become_2]
    dsimp only
    repeat' (first | with_reducible exact id | with_reducible exact h_post _ | with_reducible exact ih _ _ _ _ | with_reducible refine m_lt (fun _ => ?_) | with_reducible refine m_dn (fun _ => ?_) | with_reducible refine m_al (fun _ => ?_) | with_reducible refine m_as (fun _ => ?_) | with_reducible refine m_ite ?_ ?_ | with_reducible refine m_ex (fun _ => ?_) | with_reducible refine mm_LX0_become_120 (fun _ => ?_) _ _ _ _ _)
theorem mm_wpX0_become {ln : Nat → Nat} {S : HC} {a0 : Nat} {a1 : Nat} {post post' : HC → Prop} (h_post : ∀ u0, post u0 → post' u0) : wpX0_become ln S a0 a1 post → wpX0_become ln S a0 a1 post' := by
  unfold wpX0_become
  repeat' (first | with_reducible exact id | with_reducible exact h_post _ | with_reducible refine m_ex (fun _ => ?_) | with_reducible refine mm_LX0_become_2 (fun _ => ?_) _ _ _ _ _)
theorem mm_wpX1_leaf {ln : Nat → Nat} {S : HC} {a0 : Int32} {a1 : Int32} {a2 : Int32} {a3 : Int32} {post post' : Int32 → HC → Prop} (h_post : ∀ u0 u1, post u0 u1 → post' u0 u1) : wpX1_leaf ln S a0 a1 a2 a3 post → wpX1_leaf ln S a0 a1 a2 a3 post' := by
  unfold wpX1_leaf
  repeat' (first | with_reducible exact id | with_reducible exact h_post _ _ | with_reducible refine m_ite ?_ ?_)
theorem mm_BX1_work_102 {ln : Nat → Nat} {S : HC} {post post' : Int32 → HC → Prop} (h_post : ∀ u0 u1, post u0 u1 → post' u0 u1) : BX1_work_102 ln post S → BX1_work_102 ln post' S := by
  unfold BX1_work_102
  repeat' (first | with_reducible exact id | with_reducible exact h_post _ _)
theorem mm_BX1_work_84 {ln : Nat → Nat} {S : HC} {post post' : Int32 → HC → Prop} (h_post : ∀ u0 u1, post u0 u1 → post' u0 u1) : BX1_work_84 ln post S → BX1_work_84 ln post' S := by
  unfold BX1_work_84
  repeat' (first | with_reducible exact id | with_reducible exact h_post _ _)
theorem mm_wpX1_work {ln : Nat → Nat} {S : HC} {a0 : Int32} {a1 : Int32} {a2 : Int32} {post post' : Int32 → HC → Prop} (h_post : ∀ u0 u1, post u0 u1 → post' u0 u1) : wpX1_work ln S a0 a1 a2 post → wpX1_work ln S a0 a1 a2 post' := by
  unfold wpX1_work
  repeat' (first | with_reducible exact id | with_reducible exact h_post _ _ | with_reducible refine m_lt (fun _ => ?_) | with_reducible refine m_ne ?_ | with_reducible refine m_ite ?_ ?_ | with_reducible refine mm_BX1_work_102 (fun _ _ => ?_) | with_reducible refine mm_BX1_work_84 (fun _ _ => ?_))
theorem mm_BX1_give_136 {ln : Nat → Nat} {S : HC} {x0 : Nat} {x1 : Int32} {x2 : Int32} {x3 : Int32} {x4 : Nat} {x5 : Int32} {x6 : Int32} {post post' : Int32 → HC → Prop} {K6 K6' : HC → Nat → Int32 → Int32 → Int32 → Nat → Int32 → Int32 → Prop} (h_post : ∀ u0 u1, post u0 u1 → post' u0 u1) (h_K6 : ∀ u0 u1 u2 u3 u4 u5 u6 u7, K6 u0 u1 u2 u3 u4 u5 u6 u7 → K6' u0 u1 u2 u3 u4 u5 u6 u7) : BX1_give_136 ln post K6 S x0 x1 x2 x3 x4 x5 x6 → BX1_give_136 ln post' K6' S x0 x1 x2 x3 x4 x5 x6 := by
  unfold BX1_give_136
  repeat' (first | with_reducible exact id | with_reducible exact h_post _ _ | with_reducible exact h_K6 _ _ _ _ _ _ _ _ | with_reducible refine m_lt (fun _ => ?_))
theorem mm_BX1_give_95 {ln : Nat → Nat} {S : HC} {x0 : Nat} {x1 : Int32} {x2 : Int32} {x3 : Int32} {x4 : Nat} {x5 : Int32} {x6 : Int32} {t0 : Nat} {t1 : Int32} {t2 : Int32} {post post' : Int32 → HC → Prop} {K6 K6' : HC → Nat → Int32 → Int32 → Int32 → Nat → Int32 → Int32 → Prop} (h_post : ∀ u0 u1, post u0 u1 → post' u0 u1) (h_K6 : ∀ u0 u1 u2 u3 u4 u5 u6 u7, K6 u0 u1 u2 u3 u4 u5 u6 u7 → K6' u0 u1 u2 u3 u4 u5 u6 u7) : BX1_give_95 ln post K6 S x0 x1 x2 x3 x4 x5 x6 t0 t1 t2 → BX1_give_95 ln post' K6' S x0 x1 x2 x3 x4 x5 x6 t0 t1 t2 := by
  unfold BX1_give_95
  repeat' (first | with_reducible exact id | with_reducible exact h_post _ _ | with_reducible exact h_K6 _ _ _ _ _ _ _ _ | with_reducible refine m_as (fun _ => ?_) | with_reducible refine mm_BX1_give_136 (fun _ _ => ?_) (fun _ _ _ _ _ _ _ _ => ?_))
theorem mm_LX1_give_6 {ln : Nat → Nat} {post post' : Int32 → HC → Prop} (h_post : ∀ u0 u1, post u0 u1 → post' u0 u1) : ∀ n v0 v1 v2 v3 v4 v5 v6 v7, LX1_give_6 ln post n v0 v1 v2 v3 v4 v5 v6 v7 → LX1_give_6 ln post' n v0 v1 v2 v3 v4 v5 v6 v7 := by
  intro n
  induction n with
  | zero => intros; assumption
  | succ n ih =>
    intro v0 v1 v2 v3 v4 v5 v6 v7
    rw [LX1_give_6, LX1_give_6]
    dsimp only
    repeat' (first | with_reducible exact id | with_reducible exact h_post _ _ | with_reducible exact ih _ _ _ _ _ _ _ _ | with_reducible refine m_lt (fun _ => ?_) | with_reducible refine m_dn (fun _ => ?_) | with_reducible refine m_al (fun _ => ?_) | with_reducible refine m_as (fun _ => ?_) | with_reducible refine m_ite ?_ ?_ | with_reducible refine mm_BX1_give_136 (fun _ _ => ?_) (fun _ _ _ _ _ _ _ _ => ?_) | with_reducible refine mm_BX1_give_95 (fun _ _ => ?_) (fun _ _ _ _ _ _ _ _ => ?_) | with_reducible refine mm_wpX1_work (fun _ _ => ?_) | with_reducible refine mm_wpX1_leaf (fun _ _ => ?_))
theorem mm_wpX1_give {ln : Nat → Nat} {S : HC} {a0 : Nat} {a1 : Int32} {a2 : Int32} {a3 : Int32} {a4 : Nat} {post post' : Int32 → HC → Prop} (h_post : ∀ u0 u1, post u0 u1 → post' u0 u1) : wpX1_give ln S a0 a1 a2 a3 a4 post → wpX1_give ln S a0 a1 a2 a3 a4 post' := by
  unfold wpX1_give
  repeat' (first | with_reducible exact id | with_reducible exact h_post _ _ | with_reducible refine m_ex (fun _ => ?_) | with_reducible refine mm_LX1_give_6 (fun _ _ => ?_) _ _ _ _ _ _ _ _ _)
theorem mm_LX3_beginAs_12 {ln : Nat → Nat} {post post' : HC → Prop} (h_post : ∀ u0, post u0 → post' u0) : ∀ n v0 v1 v2, LX3_beginAs_12 ln post n v0 v1 v2 → LX3_beginAs_12 ln post' n v0 v1 v2 := by
  intro n
  induction n with
  | zero => intros; assumption
  | succ n ih =>
    intro v0 v1 v2
    rw [LX3_beginAs_12, LX3_beginAs_12]
    dsimp only
    repeat' (first | with_reducible exact id | with_reducible exact h_post _ | with_reducible exact ih _ _ _ | with_reducible refine m_lt (fun _ => ?_) | with_reducible refine m_dn (fun _ => ?_) | with_reducible refine m_as (fun _ => ?_) | with_reducible refine m_ite ?_ ?_)
theorem mm_wpX3_beginAs {ln : Nat → Nat} {S : HC} {a0 : Nat} {a1 : Int32} {a2 : Int32} {post post' : HC → Prop} (h_post : ∀ u0, post u0 → post' u0) : wpX3_beginAs ln S a0 a1 a2 post → wpX3_beginAs ln S a0 a1 a2 post' := by
  unfold wpX3_beginAs
  repeat' (first | with_reducible exact id | with_reducible exact h_post _ | with_reducible refine m_lt (fun _ => ?_) | with_reducible refine m_ex (fun _ => ?_) | with_reducible refine mm_LX3_beginAs_12 (fun _ => ?_) _ _ _ _)
theorem mm_LX3_become_18 {ln : Nat → Nat} {post post' : HC → Prop} (h_post : ∀ u0, post u0 → post' u0) : ∀ n v0 v1 v2 v3, LX3_become_18 ln post n v0 v1 v2 v3 → LX3_become_18 ln post' n v0 v1 v2 v3 := by
  intro n
  induction n with
  | zero => intros; assumption
  | succ n ih =>
    intro v0 v1 v2 v3
    rw [LX3_become_18, LX3_become_18]
    dsimp only
    repeat' (first | with_reducible exact id | with_reducible exact h_post _ | with_reducible exact ih _ _ _ _ | with_reducible refine m_lt (fun _ => ?_) | with_reducible refine m_dn (fun _ => ?_) | with_reducible refine m_al (fun _ => ?_) | with_reducible refine m_as (fun _ => ?_) | with_reducible refine m_ite ?_ ?_)
theorem mm_wpX3_become {ln : Nat → Nat} {S : HC} {a0 : Nat} {a1 : Nat} {post post' : HC → Prop} (h_post : ∀ u0, post u0 → post' u0) : wpX3_become ln S a0 a1 post → wpX3_become ln S a0 a1 post' := by
  unfold wpX3_become
  repeat' (first | with_reducible exact id | with_reducible exact h_post _ | with_reducible refine m_lt (fun _ => ?_) | with_reducible refine m_ex (fun _ => ?_) | with_reducible refine mm_LX3_become_18 (fun _ => ?_) _ _ _ _ _)
theorem mm_wpX3_isMissing {ln : Nat → Nat} {S : HC} {a0 : Nat} {post post' : Int32 → HC → Prop} (h_post : ∀ u0 u1, post u0 u1 → post' u0 u1) : wpX3_isMissing ln S a0 post → wpX3_isMissing ln S a0 post' := by
  unfold wpX3_isMissing
  repeat' (first | with_reducible exact id | with_reducible exact h_post _ _ | with_reducible refine m_lt (fun _ => ?_) | with_reducible refine m_rb ?_ | with_reducible refine m_ite ?_ ?_)
theorem mm_BX3_hasPlace_22 {ln : Nat → Nat} {S : HC} {post post' : Int32 → HC → Prop} (h_post : ∀ u0 u1, post u0 u1 → post' u0 u1) : BX3_hasPlace_22 ln post S → BX3_hasPlace_22 ln post' S := by
  unfold BX3_hasPlace_22
  repeat' (first | with_reducible exact id | with_reducible exact h_post _ _ | with_reducible refine m_rb ?_)
theorem mm_wpX3_hasPlace {ln : Nat → Nat} {S : HC} {a0 : Nat} {a1 : Int32} {post post' : Int32 → HC → Prop} (h_post : ∀ u0 u1, post u0 u1 → post' u0 u1) : wpX3_hasPlace ln S a0 a1 post → wpX3_hasPlace ln S a0 a1 post' := by
  unfold wpX3_hasPlace
  repeat' (first | with_reducible exact id | with_reducible exact h_post _ _ | with_reducible refine m_lt (fun _ => ?_) | with_reducible refine m_rb ?_ | with_reducible refine m_ite ?_ ?_ | with_reducible refine mm_BX3_hasPlace_22 (fun _ _ => ?_))
theorem mm_BX3_hasSpan_30 {ln : Nat → Nat} {S : HC} {post post' : Int32 → HC → Prop} (h_post : ∀ u0 u1, post u0 u1 → post' u0 u1) : BX3_hasSpan_30 ln post S → BX3_hasSpan_30 ln post' S := by
  unfold BX3_hasSpan_30
  repeat' (first | with_reducible exact id | with_reducible exact h_post _ _ | with_reducible refine m_rb ?_)
theorem mm_wpX3_hasSpan {ln : Nat → Nat} {S : HC} {a0 : Nat} {a1 : Int32} {a2 : Int32} {post post' : Int32 → HC → Prop} (h_post : ∀ u0 u1, post u0 u1 → post' u0 u1) : wpX3_hasSpan ln S a0 a1 a2 post → wpX3_hasSpan ln S a0 a1 a2 post' := by
  unfold wpX3_hasSpan
  repeat' (first | with_reducible exact id | with_reducible exact h_post _ _ | with_reducible refine m_lt (fun _ => ?_) | with_reducible refine m_rb ?_ | with_reducible refine m_ite ?_ ?_ | with_reducible refine mm_BX3_hasSpan_30 (fun _ _ => ?_))
theorem mm_BX3_isNumber_23 {ln : Nat → Nat} {S : HC} {post post' : Int32 → HC → Prop} (h_post : ∀ u0 u1, post u0 u1 → post' u0 u1) : BX3_isNumber_23 ln post S → BX3_isNumber_23 ln post' S := by
  unfold BX3_isNumber_23
  repeat' (first | with_reducible exact id | with_reducible exact h_post _ _ | with_reducible refine m_rb ?_)
theorem mm_wpX3_isNumber {ln : Nat → Nat} {S : HC} {a0 : Nat} {a1 : Int32} {post post' : Int32 → HC → Prop} (h_post : ∀ u0 u1, post u0 u1 → post' u0 u1) : wpX3_isNumber ln S a0 a1 post → wpX3_isNumber ln S a0 a1 post' := by
  unfold wpX3_isNumber
  repeat' (first | with_reducible exact id | with_reducible exact h_post _ _ | with_reducible refine m_dn (fun _ => ?_) | with_reducible refine m_al (fun _ => ?_) | with_reducible refine m_rb ?_ | with_reducible refine m_ite ?_ ?_ | with_reducible refine mm_wpX3_hasPlace (fun _ _ => ?_) | with_reducible refine mm_BX3_isNumber_23 (fun _ _ => ?_))
theorem mm_BX6_take_49 {ln : Nat → Nat} {S : HC} {x0 : Nat} {x1 : Int32} {x2 : Int32} {post post' : HC → Prop} {K3 K3' : HC → Nat → Int32 → Int32 → Prop} (h_post : ∀ u0, post u0 → post' u0) (h_K3 : ∀ u0 u1 u2 u3, K3 u0 u1 u2 u3 → K3' u0 u1 u2 u3) : BX6_take_49 ln post K3 S x0 x1 x2 → BX6_take_49 ln post' K3' S x0 x1 x2 := by
  unfold BX6_take_49
  repeat' (first | with_reducible exact id | with_reducible exact h_post _ | with_reducible exact h_K3 _ _ _ _ | with_reducible refine m_lt (fun _ => ?_))
theorem mm_LX6_take_3 {ln : Nat → Nat} {post post' : HC → Prop} (h_post : ∀ u0, post u0 → post' u0) : ∀ n v0 v1 v2 v3, LX6_take_3 ln post n v0 v1 v2 v3 → LX6_take_3 ln post' n v0 v1 v2 v3 := by
  intro n
  induction n with
  | zero => intros; assumption
  | succ n ih =>
    intro v0 v1 v2 v3
    rw [LX6_take_3, LX6_take_3]
    dsimp only
    repeat' (first | with_reducible exact id | with_reducible exact h_post _ | with_reducible exact ih _ _ _ _ | with_reducible refine m_lt (fun _ => ?_) | with_reducible refine m_dn (fun _ => ?_) | with_reducible refine m_as (fun _ => ?_) | with_reducible refine m_ite ?_ ?_ | with_reducible refine mm_BX6_take_49 (fun _ => ?_) (fun _ _ _ _ => ?_))
theorem mm_wpX6_take {ln : Nat → Nat} {S : HC} {a0 : Nat} {a1 : Int32} {post post' : HC → Prop} (h_post : ∀ u0, post u0 → post' u0) : wpX6_take ln S a0 a1 post → wpX6_take ln S a0 a1 post' := by
  unfold wpX6_take
  repeat' (first | with_reducible exact id | with_reducible exact h_post _ | with_reducible refine m_ex (fun _ => ?_) | with_reducible refine mm_LX6_take_3 (fun _ => ?_) _ _ _ _ _)
theorem mm_wpJ6_bitCount_0f7a4 {ln : Nat → Nat} {S : HC} {a0 : Int32} {post post' : Int32 → HC → Prop} (h_post : ∀ u0 u1, post u0 u1 → post' u0 u1) : wpJ6_bitCount_0f7a4 ln S a0 post → wpJ6_bitCount_0f7a4 ln S a0 post' := by
  unfold wpJ6_bitCount_0f7a4
  repeat' (first | with_reducible exact id | with_reducible exact h_post _ _ | with_reducible refine m_lt (fun _ => ?_))
theorem mm_BX7_isKind_14 {ln : Nat → Nat} {S : HC} {post post' : Int32 → HC → Prop} (h_post : ∀ u0 u1, post u0 u1 → post' u0 u1) : BX7_isKind_14 ln post S → BX7_isKind_14 ln post' S := by
  unfold BX7_isKind_14
  repeat' (first | with_reducible exact id | with_reducible exact h_post _ _ | with_reducible refine m_rb ?_)
theorem mm_wpX7_isKind {ln : Nat → Nat} {S : HC} {a0 : Int32} {post post' : Int32 → HC → Prop} (h_post : ∀ u0 u1, post u0 u1 → post' u0 u1) : wpX7_isKind ln S a0 post → wpX7_isKind ln S a0 post' := by
  unfold wpX7_isKind
  repeat' (first | with_reducible exact id | with_reducible exact h_post _ _ | with_reducible refine m_rb ?_ | with_reducible refine m_ite ?_ ?_ | with_reducible refine mm_BX7_isKind_14 (fun _ _ => ?_))
theorem mm_BX7_isCharge_14 {ln : Nat → Nat} {S : HC} {post post' : Int32 → HC → Prop} (h_post : ∀ u0 u1, post u0 u1 → post' u0 u1) : BX7_isCharge_14 ln post S → BX7_isCharge_14 ln post' S := by
  unfold BX7_isCharge_14
  repeat' (first | with_reducible exact id | with_reducible exact h_post _ _ | with_reducible refine m_rb ?_)
theorem mm_wpX7_isCharge {ln : Nat → Nat} {S : HC} {a0 : Int32} {post post' : Int32 → HC → Prop} (h_post : ∀ u0 u1, post u0 u1 → post' u0 u1) : wpX7_isCharge ln S a0 post → wpX7_isCharge ln S a0 post' := by
  unfold wpX7_isCharge
  repeat' (first | with_reducible exact id | with_reducible exact h_post _ _ | with_reducible refine m_rb ?_ | with_reducible refine m_ite ?_ ?_ | with_reducible refine mm_BX7_isCharge_14 (fun _ _ => ?_))
theorem mm_BX7_isSheet_13 {ln : Nat → Nat} {S : HC} {post post' : Int32 → HC → Prop} (h_post : ∀ u0 u1, post u0 u1 → post' u0 u1) : BX7_isSheet_13 ln post S → BX7_isSheet_13 ln post' S := by
  unfold BX7_isSheet_13
  repeat' (first | with_reducible exact id | with_reducible exact h_post _ _ | with_reducible refine m_rb ?_)
theorem mm_wpX7_isSheet {ln : Nat → Nat} {S : HC} {a0 : Int32} {post post' : Int32 → HC → Prop} (h_post : ∀ u0 u1, post u0 u1 → post' u0 u1) : wpX7_isSheet ln S a0 post → wpX7_isSheet ln S a0 post' := by
  unfold wpX7_isSheet
  repeat' (first | with_reducible exact id | with_reducible exact h_post _ _ | with_reducible refine m_rb ?_ | with_reducible refine m_ite ?_ ?_ | with_reducible refine mm_BX7_isSheet_13 (fun _ _ => ?_))
theorem mm_BX7_isSlot_13 {ln : Nat → Nat} {S : HC} {post post' : Int32 → HC → Prop} (h_post : ∀ u0 u1, post u0 u1 → post' u0 u1) : BX7_isSlot_13 ln post S → BX7_isSlot_13 ln post' S := by
  unfold BX7_isSlot_13
  repeat' (first | with_reducible exact id | with_reducible exact h_post _ _ | with_reducible refine m_rb ?_)
theorem mm_wpX7_isSlot {ln : Nat → Nat} {S : HC} {a0 : Int32} {post post' : Int32 → HC → Prop} (h_post : ∀ u0 u1, post u0 u1 → post' u0 u1) : wpX7_isSlot ln S a0 post → wpX7_isSlot ln S a0 post' := by
  unfold wpX7_isSlot
  repeat' (first | with_reducible exact id | with_reducible exact h_post _ _ | with_reducible refine m_rb ?_ | with_reducible refine m_ite ?_ ?_ | with_reducible refine mm_BX7_isSlot_13 (fun _ _ => ?_))
theorem mm_wpX7_within {ln : Nat → Nat} {S : HC} {a0 : Int32} {a1 : Int32} {a2 : Int32} {post post' : Int32 → HC → Prop} (h_post : ∀ u0 u1, post u0 u1 → post' u0 u1) : wpX7_within ln S a0 a1 a2 post → wpX7_within ln S a0 a1 a2 post' := by
  unfold wpX7_within
  repeat' (first | with_reducible exact id | with_reducible exact h_post _ _ | with_reducible refine m_lt (fun _ => ?_) | with_reducible refine m_ite ?_ ?_)
theorem mm_BX7_isOfKind_36 {ln : Nat → Nat} {S : HC} {post post' : Int32 → HC → Prop} (h_post : ∀ u0 u1, post u0 u1 → post' u0 u1) : BX7_isOfKind_36 ln post S → BX7_isOfKind_36 ln post' S := by
  unfold BX7_isOfKind_36
  repeat' (first | with_reducible exact id | with_reducible exact h_post _ _ | with_reducible refine m_rb ?_)
theorem mm_LX7_isOfKind_4 {ln : Nat → Nat} {post post' : Int32 → HC → Prop} (h_post : ∀ u0 u1, post u0 u1 → post' u0 u1) : ∀ n v0 v1 v2 v3, LX7_isOfKind_4 ln post n v0 v1 v2 v3 → LX7_isOfKind_4 ln post' n v0 v1 v2 v3 := by
  intro n
  induction n with
  | zero => intros; assumption
  | succ n ih =>
    intro v0 v1 v2 v3
    rw [LX7_isOfKind_4, LX7_isOfKind_4]
    dsimp only
    repeat' (first | with_reducible exact id | with_reducible exact h_post _ _ | with_reducible exact ih _ _ _ _ | with_reducible refine m_lt (fun _ => ?_) | with_reducible refine m_al (fun _ => ?_) | with_reducible refine m_rb ?_ | with_reducible refine m_ite ?_ ?_ | with_reducible refine mm_BX7_isOfKind_36 (fun _ _ => ?_) | with_reducible refine mm_wpX7_isKind (fun _ _ => ?_))
theorem mm_wpX7_isOfKind {ln : Nat → Nat} {S : HC} {a0 : Int32} {a1 : Int32} {post post' : Int32 → HC → Prop} (h_post : ∀ u0 u1, post u0 u1 → post' u0 u1) : wpX7_isOfKind ln S a0 a1 post → wpX7_isOfKind ln S a0 a1 post' := by
  unfold wpX7_isOfKind
  repeat' (first | with_reducible exact id | with_reducible exact h_post _ _ | with_reducible refine m_ex (fun _ => ?_) | with_reducible refine mm_LX7_isOfKind_4 (fun _ _ => ?_) _ _ _ _ _)
theorem mm_wpX7_worthOf {ln : Nat → Nat} {S : HC} {a0 : Int32} {a1 : Int32} {post post' : Int32 → HC → Prop} (h_post : ∀ u0 u1, post u0 u1 → post' u0 u1) : wpX7_worthOf ln S a0 a1 post → wpX7_worthOf ln S a0 a1 post' := by
  unfold wpX7_worthOf
  repeat' (first | with_reducible exact id | with_reducible exact h_post _ _ | with_reducible refine m_lt (fun _ => ?_) | with_reducible refine m_ite ?_ ?_)
theorem mm_wpX4_lookAt {ln : Nat → Nat} {S : HC} {a0 : Nat} {a1 : Nat} {post post' : HC → Prop} (h_post : ∀ u0, post u0 → post' u0) : wpX4_lookAt ln S a0 a1 post → wpX4_lookAt ln S a0 a1 post' := by
  unfold wpX4_lookAt
  repeat' (first | with_reducible exact id | with_reducible exact h_post _ | with_reducible refine m_lt (fun _ => ?_) | with_reducible refine mm_wpX0_lawFor (fun _ _ => ?_) | with_reducible refine mm_wpX0_heiresses (fun _ _ => ?_))
theorem mm_BX4_hidden_18 {ln : Nat → Nat} {S : HC} {post post' : Int32 → HC → Prop} (h_post : ∀ u0 u1, post u0 u1 → post' u0 u1) : BX4_hidden_18 ln post S → BX4_hidden_18 ln post' S := by
  unfold BX4_hidden_18
  repeat' (first | with_reducible exact id | with_reducible exact h_post _ _)
theorem mm_wpX4_hidden {ln : Nat → Nat} {S : HC} {a0 : Nat} {a1 : Int32} {a2 : Int32} {post post' : Int32 → HC → Prop} (h_post : ∀ u0 u1, post u0 u1 → post' u0 u1) : wpX4_hidden ln S a0 a1 a2 post → wpX4_hidden ln S a0 a1 a2 post' := by
  unfold wpX4_hidden
  repeat' (first | with_reducible exact id | with_reducible exact h_post _ _ | with_reducible refine m_lt (fun _ => ?_) | with_reducible refine m_dn (fun _ => ?_) | with_reducible refine m_al (fun _ => ?_) | with_reducible refine m_ite ?_ ?_ | with_reducible refine mm_wpX0_has (fun _ _ => ?_) | with_reducible refine mm_BX4_hidden_18 (fun _ _ => ?_) | with_reducible refine mm_wpX7_isCharge (fun _ _ => ?_))
theorem mm_BX4_joined_89 {ln : Nat → Nat} {S : HC} {t0 : Int32} {post post' : Int32 → HC → Prop} (h_post : ∀ u0 u1, post u0 u1 → post' u0 u1) : BX4_joined_89 ln post S t0 → BX4_joined_89 ln post' S t0 := by
  unfold BX4_joined_89
  repeat' (first | with_reducible exact id | with_reducible exact h_post _ _ | with_reducible refine mm_wpX7_within (fun _ _ => ?_))
theorem mm_BX4_joined_54 {ln : Nat → Nat} {S : HC} {x0 : Nat} {x3 : Int32} {x4 : Int32} {t0 : Int32} {post post' : Int32 → HC → Prop} (h_post : ∀ u0 u1, post u0 u1 → post' u0 u1) : BX4_joined_54 ln post S x0 x3 x4 t0 → BX4_joined_54 ln post' S x0 x3 x4 t0 := by
  unfold BX4_joined_54
  repeat' (first | with_reducible exact id | with_reducible exact h_post _ _ | with_reducible refine m_lt (fun _ => ?_) | with_reducible refine m_dn (fun _ => ?_) | with_reducible refine m_cO ?_ (fun _ => ?_) | with_reducible refine m_ne ?_ | with_reducible refine mm_BX4_joined_89 (fun _ _ => ?_) | with_reducible refine mm_wpX1_give (fun _ _ => ?_))
theorem mm_BX4_joined_36 {ln : Nat → Nat} {S : HC} {x0 : Nat} {x2 : Int32} {x3 : Int32} {x4 : Int32} {t0 : Int32} {post post' : Int32 → HC → Prop} (h_post : ∀ u0 u1, post u0 u1 → post' u0 u1) : BX4_joined_36 ln post S x0 x2 x3 x4 t0 → BX4_joined_36 ln post' S x0 x2 x3 x4 t0 := by
  unfold BX4_joined_36
  repeat' (first | with_reducible exact id | with_reducible exact h_post _ _ | with_reducible refine m_ite ?_ ?_ | with_reducible refine mm_BX4_joined_54 (fun _ _ => ?_) | with_reducible refine mm_wpX4_hidden (fun _ _ => ?_))
theorem mm_BX4_joined_35 {ln : Nat → Nat} {S : HC} {x0 : Nat} {x2 : Int32} {x3 : Int32} {x4 : Int32} {post post' : Int32 → HC → Prop} (h_post : ∀ u0 u1, post u0 u1 → post' u0 u1) : BX4_joined_35 ln post S x0 x2 x3 x4 → BX4_joined_35 ln post' S x0 x2 x3 x4 := by
  unfold BX4_joined_35
  repeat' (first | with_reducible exact id | with_reducible exact h_post _ _ | with_reducible refine mm_BX4_joined_36 (fun _ _ => ?_))
theorem mm_wpX4_joined {ln : Nat → Nat} {S : HC} {a0 : Nat} {a1 : Int32} {a2 : Int32} {a3 : Int32} {post post' : Int32 → HC → Prop} (h_post : ∀ u0 u1, post u0 u1 → post' u0 u1) : wpX4_joined ln S a0 a1 a2 a3 post → wpX4_joined ln S a0 a1 a2 a3 post' := by
  unfold wpX4_joined
  repeat' (first | with_reducible exact id | with_reducible exact h_post _ _ | with_reducible refine m_lt (fun _ => ?_) | with_reducible refine m_dn (fun _ => ?_) | with_reducible refine m_ite ?_ ?_ | with_reducible refine mm_wpX4_hidden (fun _ _ => ?_) | with_reducible refine mm_wpX0_has (fun _ _ => ?_) | with_reducible refine mm_BX4_joined_35 (fun _ _ => ?_) | with_reducible refine mm_BX4_joined_36 (fun _ _ => ?_))
theorem mm_wpX4_asHeir {ln : Nat → Nat} {S : HC} {a0 : Nat} {a1 : Int32} {a2 : Int32} {post post' : Int32 → HC → Prop} (h_post : ∀ u0 u1, post u0 u1 → post' u0 u1) : wpX4_asHeir ln S a0 a1 a2 post → wpX4_asHeir ln S a0 a1 a2 post' := by
  unfold wpX4_asHeir
  repeat' (first | with_reducible exact id | with_reducible exact h_post _ _ | with_reducible refine m_dn (fun _ => ?_) | with_reducible refine m_al (fun _ => ?_) | with_reducible refine m_ite ?_ ?_ | with_reducible refine mm_wpX4_joined (fun _ _ => ?_))
theorem mm_BX4_byKind_27 {ln : Nat → Nat} {S : HC} {x0 : Nat} {x1 : Int32} {x2 : Int32} {x3 : Int32} {x4 : Int32} {t0 : Int32} {post post' : Int32 → HC → Prop} (h_post : ∀ u0 u1, post u0 u1 → post' u0 u1) : BX4_byKind_27 ln post S x0 x1 x2 x3 x4 t0 → BX4_byKind_27 ln post' S x0 x1 x2 x3 x4 t0 := by
  unfold BX4_byKind_27
  repeat' (first | with_reducible exact id | with_reducible exact h_post _ _ | with_reducible refine m_lt (fun _ => ?_) | with_reducible refine m_dn (fun _ => ?_) | with_reducible refine m_al (fun _ => ?_) | with_reducible refine m_ne ?_ | with_reducible refine m_ite ?_ ?_ | with_reducible refine mm_wpX4_hidden (fun _ _ => ?_))
theorem mm_wpX4_byKind {ln : Nat → Nat} {S : HC} {a0 : Nat} {a1 : Int32} {a2 : Int32} {a3 : Int32} {post post' : Int32 → HC → Prop} (h_post : ∀ u0 u1, post u0 u1 → post' u0 u1) : wpX4_byKind ln S a0 a1 a2 a3 post → wpX4_byKind ln S a0 a1 a2 a3 post' := by
  unfold wpX4_byKind
  repeat' (first | with_reducible exact id | with_reducible exact h_post _ _ | with_reducible refine m_lt (fun _ => ?_) | with_reducible refine m_dn (fun _ => ?_) | with_reducible refine m_al (fun _ => ?_) | with_reducible refine m_ite ?_ ?_ | with_reducible refine mm_BX4_byKind_27 (fun _ _ => ?_))
theorem mm_LX4_workOut_2 {ln : Nat → Nat} {post post' : HC → Prop} (h_post : ∀ u0, post u0 → post' u0) : ∀ n v0 v1 v2 v3, LX4_workOut_2 ln post n v0 v1 v2 v3 → LX4_workOut_2 ln post' n v0 v1 v2 v3 := by
  intro n
  induction n with
  | zero => intros; assumption
  | succ n ih =>
    intro v0 v1 v2 v3
    rw [LX4_workOut_2, LX4_workOut_2]
    dsimp only
    repeat' (first | with_reducible exact id | with_reducible exact h_post _ | with_reducible exact ih _ _ _ _ | with_reducible refine m_lt (fun _ => ?_) | with_reducible refine m_dn (fun _ => ?_) | with_reducible refine m_as (fun _ => ?_) | with_reducible refine m_ite ?_ ?_ | with_reducible refine mm_wpX4_asHeir (fun _ _ => ?_) | with_reducible refine mm_wpX4_byKind (fun _ _ => ?_))
theorem mm_wpX4_workOut {ln : Nat → Nat} {S : HC} {a0 : Nat} {a1 : Int32} {post post' : HC → Prop} (h_post : ∀ u0, post u0 → post' u0) : wpX4_workOut ln S a0 a1 post → wpX4_workOut ln S a0 a1 post' := by
  unfold wpX4_workOut
  repeat' (first | with_reducible exact id | with_reducible exact h_post _ | with_reducible refine m_ex (fun _ => ?_) | with_reducible refine mm_LX4_workOut_2 (fun _ => ?_) _ _ _ _ _)
theorem mm_LX4_workOutAll_7 {ln : Nat → Nat} {post post' : HC → Prop} (h_post : ∀ u0, post u0 → post' u0) : ∀ n v0 v1 v2, LX4_workOutAll_7 ln post n v0 v1 v2 → LX4_workOutAll_7 ln post' n v0 v1 v2 := by
  intro n
  induction n with
  | zero => intros; assumption
  | succ n ih =>
    intro v0 v1 v2
    rw [LX4_workOutAll_7, LX4_workOutAll_7]
    dsimp only
    repeat' (first | with_reducible exact id | with_reducible exact h_post _ | with_reducible exact ih _ _ _ | with_reducible refine m_lt (fun _ => ?_) | with_reducible refine m_ite ?_ ?_ | with_reducible refine mm_wpX4_workOut (fun _ => ?_))
theorem mm_wpX4_workOutAll {ln : Nat → Nat} {S : HC} {a0 : Nat} {a1 : Nat} {post post' : HC → Prop} (h_post : ∀ u0, post u0 → post' u0) : wpX4_workOutAll ln S a0 a1 post → wpX4_workOutAll ln S a0 a1 post' := by
  unfold wpX4_workOutAll
  repeat' (first | with_reducible exact id | with_reducible exact h_post _ | with_reducible refine m_ex (fun _ => ?_) | with_reducible refine mm_wpX4_lookAt (fun _ => ?_) | with_reducible refine mm_LX4_workOutAll_7 (fun _ => ?_) _ _ _ _)
theorem mm_BX4_shown_28 {ln : Nat → Nat} {S : HC} {post post' : Int32 → HC → Prop} (h_post : ∀ u0 u1, post u0 u1 → post' u0 u1) : BX4_shown_28 ln post S → BX4_shown_28 ln post' S := by
  unfold BX4_shown_28
  repeat' (first | with_reducible exact id | with_reducible exact h_post _ _)
theorem mm_wpX4_shown {ln : Nat → Nat} {S : HC} {a0 : Nat} {a1 : Int32} {a2 : Int32} {post post' : Int32 → HC → Prop} (h_post : ∀ u0 u1, post u0 u1 → post' u0 u1) : wpX4_shown ln S a0 a1 a2 post → wpX4_shown ln S a0 a1 a2 post' := by
  unfold wpX4_shown
  repeat' (first | with_reducible exact id | with_reducible exact h_post _ _ | with_reducible refine m_lt (fun _ => ?_) | with_reducible refine m_dn (fun _ => ?_) | with_reducible refine m_al (fun _ => ?_) | with_reducible refine m_ite ?_ ?_ | with_reducible refine mm_wpX0_has (fun _ _ => ?_) | with_reducible refine mm_BX4_shown_28 (fun _ _ => ?_) | with_reducible refine mm_wpX4_hidden (fun _ _ => ?_))
theorem mm_LX4_packed_5 {ln : Nat → Nat} {post post' : Int64 → HC → Prop} (h_post : ∀ u0 u1, post u0 u1 → post' u0 u1) : ∀ n v0 v1 v2 v3 v4, LX4_packed_5 ln post n v0 v1 v2 v3 v4 → LX4_packed_5 ln post' n v0 v1 v2 v3 v4 := by
  intro n
  induction n with
  | zero => intros; assumption
  | succ n ih =>
    intro v0 v1 v2 v3 v4
    rw [LX4_packed_5, LX4_packed_5]
    dsimp only
    repeat' (first | with_reducible exact id | with_reducible exact h_post _ _ | with_reducible exact ih _ _ _ _ _ | with_reducible refine m_lt (fun _ => ?_) | with_reducible refine m_ite ?_ ?_ | with_reducible refine mm_wpX4_shown (fun _ _ => ?_))
theorem mm_wpX4_packed {ln : Nat → Nat} {S : HC} {a0 : Nat} {a1 : Int32} {post post' : Int64 → HC → Prop} (h_post : ∀ u0 u1, post u0 u1 → post' u0 u1) : wpX4_packed ln S a0 a1 post → wpX4_packed ln S a0 a1 post' := by
  unfold wpX4_packed
  repeat' (first | with_reducible exact id | with_reducible exact h_post _ _ | with_reducible refine m_ex (fun _ => ?_) | with_reducible refine mm_LX4_packed_5 (fun _ _ => ?_) _ _ _ _ _ _)
theorem mm_BX4_clashes_52 {ln : Nat → Nat} {S : HC} {x0 : Nat} {x1 : Int32} {x2 : Int32} {x3 : Int32} {post post' : Int32 → HC → Prop} {K4 K4' : HC → Nat → Int32 → Int32 → Prop} {K28 K28' : HC → Nat → Int32 → Int32 → Int32 → Prop} (h_post : ∀ u0 u1, post u0 u1 → post' u0 u1) (h_K4 : ∀ u0 u1 u2 u3, K4 u0 u1 u2 u3 → K4' u0 u1 u2 u3) (h_K28 : ∀ u0 u1 u2 u3 u4, K28 u0 u1 u2 u3 u4 → K28' u0 u1 u2 u3 u4) : BX4_clashes_52 ln post K4 K28 S x0 x1 x2 x3 → BX4_clashes_52 ln post' K4' K28' S x0 x1 x2 x3 := by
  unfold BX4_clashes_52
  repeat' (first | with_reducible exact id | with_reducible exact h_post _ _ | with_reducible exact h_K4 _ _ _ _ | with_reducible exact h_K28 _ _ _ _ _ | with_reducible refine m_lt (fun _ => ?_))
theorem mm_LX4_clashes_28 {ln : Nat → Nat} {post post' : Int32 → HC → Prop} {K4 K4' : HC → Nat → Int32 → Int32 → Prop} (h_post : ∀ u0 u1, post u0 u1 → post' u0 u1) (h_K4 : ∀ u0 u1 u2 u3, K4 u0 u1 u2 u3 → K4' u0 u1 u2 u3) : ∀ n v0 v1 v2 v3 v4, LX4_clashes_28 ln post K4 n v0 v1 v2 v3 v4 → LX4_clashes_28 ln post' K4' n v0 v1 v2 v3 v4 := by
  intro n
  induction n with
  | zero => intros; assumption
  | succ n ih =>
    intro v0 v1 v2 v3 v4
    rw [LX4_clashes_28, LX4_clashes_28]
    dsimp only
    repeat' (first | with_reducible exact id | with_reducible exact h_post _ _ | with_reducible exact h_K4 _ _ _ _ | with_reducible exact ih _ _ _ _ _ | with_reducible refine m_lt (fun _ => ?_) | with_reducible refine m_dn (fun _ => ?_) | with_reducible refine m_al (fun _ => ?_) | with_reducible refine m_ite ?_ ?_ | with_reducible refine mm_BX4_clashes_52 (fun _ _ => ?_) (fun _ _ _ _ => ?_) (fun _ _ _ _ _ => ?_))
theorem mm_LX4_clashes_4 {ln : Nat → Nat} {post post' : Int32 → HC → Prop} (h_post : ∀ u0 u1, post u0 u1 → post' u0 u1) : ∀ n v0 v1 v2 v3, LX4_clashes_4 ln post n v0 v1 v2 v3 → LX4_clashes_4 ln post' n v0 v1 v2 v3 := by
  intro n
  induction n with
  | zero => intros; assumption
  | succ n ih =>
    intro v0 v1 v2 v3
    rw [LX4_clashes_4, LX4_clashes_4]
    dsimp only
    repeat' (first | with_reducible exact id | with_reducible exact h_post _ _ | with_reducible exact ih _ _ _ _ | with_reducible refine m_lt (fun _ => ?_) | with_reducible refine m_dn (fun _ => ?_) | with_reducible refine m_as (fun _ => ?_) | with_reducible refine m_ite ?_ ?_ | with_reducible refine m_ex (fun _ => ?_) | with_reducible refine mm_wpX4_packed (fun _ _ => ?_) | with_reducible refine mm_LX4_clashes_28 (fun _ _ => ?_) (fun _ _ _ _ => ?_) _ _ _ _ _ _)
theorem mm_wpX4_clashes {ln : Nat → Nat} {S : HC} {a0 : Nat} {post post' : Int32 → HC → Prop} (h_post : ∀ u0 u1, post u0 u1 → post' u0 u1) : wpX4_clashes ln S a0 post → wpX4_clashes ln S a0 post' := by
  unfold wpX4_clashes
  repeat' (first | with_reducible exact id | with_reducible exact h_post _ _ | with_reducible refine m_ex (fun _ => ?_) | with_reducible refine mm_LX4_clashes_4 (fun _ _ => ?_) _ _ _ _ _)
theorem mm_LX4_together_4 {ln : Nat → Nat} {post post' : Int32 → HC → Prop} (h_post : ∀ u0 u1, post u0 u1 → post' u0 u1) : ∀ n v0 v1 v2 v3 v4, LX4_together_4 ln post n v0 v1 v2 v3 v4 → LX4_together_4 ln post' n v0 v1 v2 v3 v4 := by
  intro n
  induction n with
  | zero => intros; assumption
  | succ n ih =>
    intro v0 v1 v2 v3 v4
    rw [LX4_together_4, LX4_together_4]
    dsimp only
    repeat' (first | with_reducible exact id | with_reducible exact h_post _ _ | with_reducible exact ih _ _ _ _ _ | with_reducible refine m_lt (fun _ => ?_) | with_reducible refine m_dn (fun _ => ?_) | with_reducible refine m_ite ?_ ?_ | with_reducible refine mm_wpX4_shown (fun _ _ => ?_))
theorem mm_wpX4_together {ln : Nat → Nat} {S : HC} {a0 : Nat} {a1 : Int32} {post post' : Int32 → HC → Prop} (h_post : ∀ u0 u1, post u0 u1 → post' u0 u1) : wpX4_together ln S a0 a1 post → wpX4_together ln S a0 a1 post' := by
  unfold wpX4_together
  repeat' (first | with_reducible exact id | with_reducible exact h_post _ _ | with_reducible refine m_ex (fun _ => ?_) | with_reducible refine mm_LX4_together_4 (fun _ _ => ?_) _ _ _ _ _ _)
theorem mm_BX4_bearersOf_35 {ln : Nat → Nat} {S : HC} {x0 : Nat} {x1 : Int32} {x2 : Int32} {x3 : Int32} {x4 : Int32} {post post' : Int32 → HC → Prop} {K5 K5' : HC → Nat → Int32 → Int32 → Int32 → Int32 → Prop} (h_post : ∀ u0 u1, post u0 u1 → post' u0 u1) (h_K5 : ∀ u0 u1 u2 u3 u4 u5, K5 u0 u1 u2 u3 u4 u5 → K5' u0 u1 u2 u3 u4 u5) : BX4_bearersOf_35 ln post K5 S x0 x1 x2 x3 x4 → BX4_bearersOf_35 ln post' K5' S x0 x1 x2 x3 x4 := by
  unfold BX4_bearersOf_35
  repeat' (first | with_reducible exact id | with_reducible exact h_post _ _ | with_reducible exact h_K5 _ _ _ _ _ _ | with_reducible refine m_lt (fun _ => ?_))
theorem mm_LX4_bearersOf_5 {ln : Nat → Nat} {post post' : Int32 → HC → Prop} (h_post : ∀ u0 u1, post u0 u1 → post' u0 u1) : ∀ n v0 v1 v2 v3 v4 v5, LX4_bearersOf_5 ln post n v0 v1 v2 v3 v4 v5 → LX4_bearersOf_5 ln post' n v0 v1 v2 v3 v4 v5 := by
  intro n
  induction n with
  | zero => intros; assumption
  | succ n ih =>
    intro v0 v1 v2 v3 v4 v5
    rw [LX4_bearersOf_5, LX4_bearersOf_5]
    dsimp only
    repeat' (first | with_reducible exact id | with_reducible exact h_post _ _ | with_reducible exact ih _ _ _ _ _ _ | with_reducible refine m_lt (fun _ => ?_) | with_reducible refine m_dn (fun _ => ?_) | with_reducible refine m_ite ?_ ?_ | with_reducible refine mm_wpX4_shown (fun _ _ => ?_) | with_reducible refine mm_BX4_bearersOf_35 (fun _ _ => ?_) (fun _ _ _ _ _ _ => ?_))
theorem mm_wpX4_bearersOf {ln : Nat → Nat} {S : HC} {a0 : Nat} {a1 : Int32} {a2 : Int32} {post post' : Int32 → HC → Prop} (h_post : ∀ u0 u1, post u0 u1 → post' u0 u1) : wpX4_bearersOf ln S a0 a1 a2 post → wpX4_bearersOf ln S a0 a1 a2 post' := by
  unfold wpX4_bearersOf
  repeat' (first | with_reducible exact id | with_reducible exact h_post _ _ | with_reducible refine m_ex (fun _ => ?_) | with_reducible refine mm_LX4_bearersOf_5 (fun _ _ => ?_) _ _ _ _ _ _ _)
theorem mm_BX4_apart_42 {ln : Nat → Nat} {S : HC} {x0 : Nat} {x1 : Int32} {x2 : Nat} {x3 : Int32} {x4 : Int32} {post post' : Int32 → HC → Prop} {K5 K5' : HC → Nat → Int32 → Nat → Int32 → Int32 → Prop} (h_post : ∀ u0 u1, post u0 u1 → post' u0 u1) (h_K5 : ∀ u0 u1 u2 u3 u4 u5, K5 u0 u1 u2 u3 u4 u5 → K5' u0 u1 u2 u3 u4 u5) : BX4_apart_42 ln post K5 S x0 x1 x2 x3 x4 → BX4_apart_42 ln post' K5' S x0 x1 x2 x3 x4 := by
  unfold BX4_apart_42
  repeat' (first | with_reducible exact id | with_reducible exact h_post _ _ | with_reducible exact h_K5 _ _ _ _ _ _ | with_reducible refine m_lt (fun _ => ?_))
theorem mm_LX4_apart_5 {ln : Nat → Nat} {post post' : Int32 → HC → Prop} (h_post : ∀ u0 u1, post u0 u1 → post' u0 u1) : ∀ n v0 v1 v2 v3 v4 v5, LX4_apart_5 ln post n v0 v1 v2 v3 v4 v5 → LX4_apart_5 ln post' n v0 v1 v2 v3 v4 v5 := by
  intro n
  induction n with
  | zero => intros; assumption
  | succ n ih =>
    intro v0 v1 v2 v3 v4 v5
    rw [LX4_apart_5, LX4_apart_5]
    dsimp only
    repeat' (first | with_reducible exact id | with_reducible exact h_post _ _ | with_reducible exact ih _ _ _ _ _ _ | with_reducible refine m_lt (fun _ => ?_) | with_reducible refine m_dn (fun _ => ?_) | with_reducible refine m_al (fun _ => ?_) | with_reducible refine m_ite ?_ ?_ | with_reducible refine mm_wpX3_isNumber (fun _ _ => ?_) | with_reducible refine mm_BX4_apart_42 (fun _ _ => ?_) (fun _ _ _ _ _ _ => ?_) | with_reducible refine mm_wpX4_shown (fun _ _ => ?_))
theorem mm_wpX4_apart {ln : Nat → Nat} {S : HC} {a0 : Nat} {a1 : Int32} {a2 : Nat} {post post' : Int32 → HC → Prop} (h_post : ∀ u0 u1, post u0 u1 → post' u0 u1) : wpX4_apart ln S a0 a1 a2 post → wpX4_apart ln S a0 a1 a2 post' := by
  unfold wpX4_apart
  repeat' (first | with_reducible exact id | with_reducible exact h_post _ _ | with_reducible refine m_ex (fun _ => ?_) | with_reducible refine mm_LX4_apart_5 (fun _ _ => ?_) _ _ _ _ _ _ _)
theorem mm_LX7_think_13 {ln : Nat → Nat} {post post' : HC → Prop} (h_post : ∀ u0, post u0 → post' u0) : ∀ n v0 v1 v2 v3, LX7_think_13 ln post n v0 v1 v2 v3 → LX7_think_13 ln post' n v0 v1 v2 v3 := by
  intro n
  induction n with
  | zero => intros; assumption
  | succ n ih =>
    intro v0 v1 v2 v3
    rw [LX7_think_13, LX7_think_13]
    dsimp only
    repeat' (first | with_reducible exact id | with_reducible exact h_post _ | with_reducible exact ih _ _ _ _ | with_reducible refine m_lt (fun _ => ?_) | with_reducible refine m_dn (fun _ => ?_) | with_reducible refine m_ite ?_ ?_ | with_reducible refine mm_wpX0_passYear (fun _ _ => ?_))
theorem mm_wpX7_think {ln : Nat → Nat} {S : HC} {a0 : Nat} {a1 : Int32} {post post' : HC → Prop} (h_post : ∀ u0, post u0 → post' u0) : wpX7_think ln S a0 a1 post → wpX7_think ln S a0 a1 post' := by
  unfold wpX7_think
  repeat' (first | with_reducible exact id | with_reducible exact h_post _ | with_reducible refine m_dn (fun _ => ?_) | with_reducible refine m_ex (fun _ => ?_) | with_reducible refine mm_wpX0_become (fun _ => ?_) | with_reducible refine mm_LX7_think_13 (fun _ => ?_) _ _ _ _ _)
theorem mm_wpX7_allBear {ln : Nat → Nat} {S : HC} {a0 : Nat} {a1 : Nat} {a2 : Int32} {post post' : Int32 → HC → Prop} (h_post : ∀ u0 u1, post u0 u1 → post' u0 u1) : wpX7_allBear ln S a0 a1 a2 post → wpX7_allBear ln S a0 a1 a2 post' := by
  unfold wpX7_allBear
  repeat' (first | with_reducible exact id | with_reducible exact h_post _ _ | with_reducible refine m_dn (fun _ => ?_) | with_reducible refine mm_wpX4_lookAt (fun _ => ?_) | with_reducible refine mm_wpX4_workOut (fun _ => ?_) | with_reducible refine mm_wpX4_together (fun _ _ => ?_))
theorem mm_wpX7_repaintThought {ln : Nat → Nat} {S : HC} {a0 : Nat} {a1 : Int32} {a2 : Int32} {post post' : HC → Prop} (h_post : ∀ u0, post u0 → post' u0) : wpX7_repaintThought ln S a0 a1 a2 post → wpX7_repaintThought ln S a0 a1 a2 post' := by
  unfold wpX7_repaintThought
  repeat' (first | with_reducible exact id | with_reducible exact h_post _ | with_reducible refine m_dn (fun _ => ?_) | with_reducible refine m_al (fun _ => ?_) | with_reducible refine m_as (fun _ => ?_) | with_reducible refine m_ite ?_ ?_ | with_reducible refine mm_wpX4_workOut (fun _ => ?_))
theorem mm_BX7_isWaiting_29 {ln : Nat → Nat} {S : HC} {post post' : Int32 → HC → Prop} (h_post : ∀ u0 u1, post u0 u1 → post' u0 u1) : BX7_isWaiting_29 ln post S → BX7_isWaiting_29 ln post' S := by
  unfold BX7_isWaiting_29
  repeat' (first | with_reducible exact id | with_reducible exact h_post _ _ | with_reducible refine m_rb ?_)
theorem mm_wpX7_isWaiting {ln : Nat → Nat} {S : HC} {a0 : Nat} {a1 : Int32} {a2 : Int32} {a3 : Int32} {post post' : Int32 → HC → Prop} (h_post : ∀ u0 u1, post u0 u1 → post' u0 u1) : wpX7_isWaiting ln S a0 a1 a2 a3 post → wpX7_isWaiting ln S a0 a1 a2 a3 post' := by
  unfold wpX7_isWaiting
  repeat' (first | with_reducible exact id | with_reducible exact h_post _ _ | with_reducible refine m_dn (fun _ => ?_) | with_reducible refine m_al (fun _ => ?_) | with_reducible refine m_rb ?_ | with_reducible refine m_ite ?_ ?_ | with_reducible refine mm_BX7_isWaiting_29 (fun _ _ => ?_))
theorem mm_BX7_person_53 {ln : Nat → Nat} {S : HC} {post post' : Int32 → HC → Prop} (h_post : ∀ u0 u1, post u0 u1 → post' u0 u1) : BX7_person_53 ln post S → BX7_person_53 ln post' S := by
  unfold BX7_person_53
  repeat' (first | with_reducible exact id | with_reducible exact h_post _ _)
theorem mm_BX7_person_31 {ln : Nat → Nat} {S : HC} {post post' : Int32 → HC → Prop} (h_post : ∀ u0 u1, post u0 u1 → post' u0 u1) : BX7_person_31 ln post S → BX7_person_31 ln post' S := by
  unfold BX7_person_31
  repeat' (first | with_reducible exact id | with_reducible exact h_post _ _)
theorem mm_wpX7_person {ln : Nat → Nat} {S : HC} {a0 : Nat} {a1 : Int32} {a2 : Int32} {a3 : Int32} {a4 : Int32} {a5 : Int32} {post post' : Int32 → HC → Prop} (h_post : ∀ u0 u1, post u0 u1 → post' u0 u1) : wpX7_person ln S a0 a1 a2 a3 a4 a5 post → wpX7_person ln S a0 a1 a2 a3 a4 a5 post' := by
  unfold wpX7_person
  repeat' (first | with_reducible exact id | with_reducible exact h_post _ _ | with_reducible refine m_dn (fun _ => ?_) | with_reducible refine m_ite ?_ ?_ | with_reducible refine mm_wpX7_isKind (fun _ _ => ?_) | with_reducible refine mm_BX7_person_31 (fun _ _ => ?_) | with_reducible refine mm_wpX0_canBeParent (fun _ _ => ?_) | with_reducible refine mm_BX7_person_53 (fun _ _ => ?_) | with_reducible refine mm_wpX7_isCharge (fun _ _ => ?_) | with_reducible refine mm_wpX0_hasRoom (fun _ _ => ?_) | with_reducible refine mm_wpX0_add (fun _ _ => ?_))
theorem mm_wpX7_told {ln : Nat → Nat} {S : HC} {a0 : Nat} {a1 : Int32} {a2 : Int32} {post post' : Int32 → HC → Prop} (h_post : ∀ u0 u1, post u0 u1 → post' u0 u1) : wpX7_told ln S a0 a1 a2 post → wpX7_told ln S a0 a1 a2 post' := by
  unfold wpX7_told
  repeat' (first | with_reducible exact id | with_reducible exact h_post _ _ | with_reducible refine m_dn (fun _ => ?_) | with_reducible refine m_al (fun _ => ?_) | with_reducible refine m_ite ?_ ?_ | with_reducible refine mm_wpX0_has (fun _ _ => ?_) | with_reducible refine mm_wpX0_isHeiress (fun _ _ => ?_) | with_reducible refine mm_wpX7_worthOf (fun _ _ => ?_))
theorem mm_BX7_bears_18 {ln : Nat → Nat} {S : HC} {post post' : Int32 → HC → Prop} (h_post : ∀ u0 u1, post u0 u1 → post' u0 u1) : BX7_bears_18 ln post S → BX7_bears_18 ln post' S := by
  unfold BX7_bears_18
  repeat' (first | with_reducible exact id | with_reducible exact h_post _ _)
theorem mm_wpX7_bears {ln : Nat → Nat} {S : HC} {a0 : Nat} {a1 : Int32} {a2 : Int32} {post post' : Int32 → HC → Prop} (h_post : ∀ u0 u1, post u0 u1 → post' u0 u1) : wpX7_bears ln S a0 a1 a2 post → wpX7_bears ln S a0 a1 a2 post' := by
  unfold wpX7_bears
  repeat' (first | with_reducible exact id | with_reducible exact h_post _ _ | with_reducible refine m_dn (fun _ => ?_) | with_reducible refine m_ite ?_ ?_ | with_reducible refine mm_wpX0_has (fun _ _ => ?_) | with_reducible refine mm_BX7_bears_18 (fun _ _ => ?_) | with_reducible refine mm_wpX7_isCharge (fun _ _ => ?_) | with_reducible refine mm_wpX4_lookAt (fun _ => ?_) | with_reducible refine mm_wpX4_workOut (fun _ => ?_) | with_reducible refine mm_wpX4_shown (fun _ _ => ?_))
theorem mm_BX7_as_18 {ln : Nat → Nat} {S : HC} {post post' : Int32 → HC → Prop} (h_post : ∀ u0 u1, post u0 u1 → post' u0 u1) : BX7_as_18 ln post S → BX7_as_18 ln post' S := by
  unfold BX7_as_18
  repeat' (first | with_reducible exact id | with_reducible exact h_post _ _)
theorem mm_wpX7_as {ln : Nat → Nat} {S : HC} {a0 : Nat} {a1 : Int32} {a2 : Int32} {post post' : Int32 → HC → Prop} (h_post : ∀ u0 u1, post u0 u1 → post' u0 u1) : wpX7_as ln S a0 a1 a2 post → wpX7_as ln S a0 a1 a2 post' := by
  unfold wpX7_as
  repeat' (first | with_reducible exact id | with_reducible exact h_post _ _ | with_reducible refine m_dn (fun _ => ?_) | with_reducible refine m_al (fun _ => ?_) | with_reducible refine m_ite ?_ ?_ | with_reducible refine mm_wpX0_has (fun _ _ => ?_) | with_reducible refine mm_BX7_as_18 (fun _ _ => ?_) | with_reducible refine mm_wpX7_isKind (fun _ _ => ?_) | with_reducible refine mm_wpX7_isOfKind (fun _ _ => ?_))
theorem mm_BX7_turns_18 {ln : Nat → Nat} {S : HC} {post post' : Int32 → HC → Prop} (h_post : ∀ u0 u1, post u0 u1 → post' u0 u1) : BX7_turns_18 ln post S → BX7_turns_18 ln post' S := by
  unfold BX7_turns_18
  repeat' (first | with_reducible exact id | with_reducible exact h_post _ _)
theorem mm_wpX7_turns {ln : Nat → Nat} {S : HC} {a0 : Nat} {a1 : Int32} {a2 : Int32} {post post' : Int32 → HC → Prop} (h_post : ∀ u0 u1, post u0 u1 → post' u0 u1) : wpX7_turns ln S a0 a1 a2 post → wpX7_turns ln S a0 a1 a2 post' := by
  unfold wpX7_turns
  repeat' (first | with_reducible exact id | with_reducible exact h_post _ _ | with_reducible refine m_dn (fun _ => ?_) | with_reducible refine m_al (fun _ => ?_) | with_reducible refine m_as (fun _ => ?_) | with_reducible refine m_ite ?_ ?_ | with_reducible refine mm_wpX0_has (fun _ _ => ?_) | with_reducible refine mm_BX7_turns_18 (fun _ _ => ?_) | with_reducible refine mm_wpX7_isKind (fun _ _ => ?_))
theorem mm_BX7_set_94 {ln : Nat → Nat} {S : HC} {x4 : Int32} {post post' : Int32 → HC → Prop} (h_post : ∀ u0 u1, post u0 u1 → post' u0 u1) : BX7_set_94 ln post S x4 → BX7_set_94 ln post' S x4 := by
  unfold BX7_set_94
  repeat' (first | with_reducible exact id | with_reducible exact h_post _ _)
theorem mm_BX7_set_90 {ln : Nat → Nat} {S : HC} {post post' : Int32 → HC → Prop} (h_post : ∀ u0 u1, post u0 u1 → post' u0 u1) : BX7_set_90 ln post S → BX7_set_90 ln post' S := by
  unfold BX7_set_90
  repeat' (first | with_reducible exact id | with_reducible exact h_post _ _ | with_reducible refine mm_BX7_set_94 (fun _ _ => ?_))
theorem mm_BX7_set_50 {ln : Nat → Nat} {S : HC} {x0 : Nat} {x1 : Int32} {x2 : Int32} {x3 : Int32} {post post' : Int32 → HC → Prop} (h_post : ∀ u0 u1, post u0 u1 → post' u0 u1) : BX7_set_50 ln post S x0 x1 x2 x3 → BX7_set_50 ln post' S x0 x1 x2 x3 := by
  unfold BX7_set_50
  repeat' (first | with_reducible exact id | with_reducible exact h_post _ _ | with_reducible refine m_dn (fun _ => ?_) | with_reducible refine m_al (fun _ => ?_) | with_reducible refine m_as (fun _ => ?_) | with_reducible refine m_ite ?_ ?_ | with_reducible refine mm_BX7_set_90 (fun _ _ => ?_) | with_reducible refine mm_BX7_set_94 (fun _ _ => ?_))
theorem mm_wpX7_set {ln : Nat → Nat} {S : HC} {a0 : Nat} {a1 : Int32} {a2 : Int32} {a3 : Int32} {post post' : Int32 → HC → Prop} (h_post : ∀ u0 u1, post u0 u1 → post' u0 u1) : wpX7_set ln S a0 a1 a2 a3 post → wpX7_set ln S a0 a1 a2 a3 post' := by
  unfold wpX7_set
  repeat' (first | with_reducible exact id | with_reducible exact h_post _ _ | with_reducible refine m_dn (fun _ => ?_) | with_reducible refine m_al (fun _ => ?_) | with_reducible refine m_as (fun _ => ?_) | with_reducible refine m_ite ?_ ?_ | with_reducible refine mm_wpX0_has (fun _ _ => ?_) | with_reducible refine mm_wpX7_isCharge (fun _ _ => ?_) | with_reducible refine mm_BX7_set_50 (fun _ _ => ?_) | with_reducible refine mm_BX7_set_94 (fun _ _ => ?_))
theorem mm_BX7_fertile_10 {ln : Nat → Nat} {S : HC} {post post' : Int32 → HC → Prop} (h_post : ∀ u0 u1, post u0 u1 → post' u0 u1) : BX7_fertile_10 ln post S → BX7_fertile_10 ln post' S := by
  unfold BX7_fertile_10
  repeat' (first | with_reducible exact id | with_reducible exact h_post _ _)
theorem mm_wpX7_fertile {ln : Nat → Nat} {S : HC} {a0 : Nat} {a1 : Int32} {post post' : Int32 → HC → Prop} (h_post : ∀ u0 u1, post u0 u1 → post' u0 u1) : wpX7_fertile ln S a0 a1 post → wpX7_fertile ln S a0 a1 post' := by
  unfold wpX7_fertile
  repeat' (first | with_reducible exact id | with_reducible exact h_post _ _ | with_reducible refine m_lt (fun _ => ?_) | with_reducible refine m_dn (fun _ => ?_) | with_reducible refine m_ite ?_ ?_ | with_reducible refine mm_BX7_fertile_10 (fun _ _ => ?_))
theorem mm_BX7_deal_44 {ln : Nat → Nat} {S : HC} {x2 : Int32} {post post' : Int32 → HC → Prop} (h_post : ∀ u0 u1, post u0 u1 → post' u0 u1) : BX7_deal_44 ln post S x2 → BX7_deal_44 ln post' S x2 := by
  unfold BX7_deal_44
  repeat' (first | with_reducible exact id | with_reducible exact h_post _ _)
theorem mm_LX7_deal_16 {ln : Nat → Nat} {post post' : Int32 → HC → Prop} (h_post : ∀ u0 u1, post u0 u1 → post' u0 u1) : ∀ n v0 v1 v2 v3, LX7_deal_16 ln post n v0 v1 v2 v3 → LX7_deal_16 ln post' n v0 v1 v2 v3 := by
  intro n
  induction n with
  | zero => intros; assumption
  | succ n ih =>
    intro v0 v1 v2 v3
    rw [LX7_deal_16, LX7_deal_16]
    dsimp only
    repeat' (first | with_reducible exact id | with_reducible exact h_post _ _ | with_reducible exact ih _ _ _ _ | with_reducible refine m_lt (fun _ => ?_) | with_reducible refine m_dn (fun _ => ?_) | with_reducible refine m_ite ?_ ?_ | with_reducible refine mm_BX7_deal_44 (fun _ _ => ?_) | with_reducible refine mm_wpX0_hasRoom (fun _ _ => ?_) | with_reducible refine mm_wpX0_drawFounder (fun _ => ?_))
theorem mm_BX7_deal_11 {ln : Nat → Nat} {S : HC} {post post' : Int32 → HC → Prop} (h_post : ∀ u0 u1, post u0 u1 → post' u0 u1) : BX7_deal_11 ln post S → BX7_deal_11 ln post' S := by
  unfold BX7_deal_11
  repeat' (first | with_reducible exact id | with_reducible exact h_post _ _)
theorem mm_wpX7_deal {ln : Nat → Nat} {S : HC} {a0 : Nat} {a1 : Int32} {post post' : Int32 → HC → Prop} (h_post : ∀ u0 u1, post u0 u1 → post' u0 u1) : wpX7_deal ln S a0 a1 post → wpX7_deal ln S a0 a1 post' := by
  unfold wpX7_deal
  repeat' (first | with_reducible exact id | with_reducible exact h_post _ _ | with_reducible refine m_ite ?_ ?_ | with_reducible refine m_ex (fun _ => ?_) | with_reducible refine mm_BX7_deal_11 (fun _ _ => ?_) | with_reducible refine mm_LX7_deal_16 (fun _ _ => ?_) _ _ _ _ _)
theorem mm_wpX7_seed {ln : Nat → Nat} {S : HC} {a0 : Nat} {a1 : Int32} {post post' : Int32 → HC → Prop} (h_post : ∀ u0 u1, post u0 u1 → post' u0 u1) : wpX7_seed ln S a0 a1 post → wpX7_seed ln S a0 a1 post' := by
  unfold wpX7_seed
  repeat' (first | with_reducible exact id | with_reducible exact h_post _ _ | with_reducible refine m_lt (fun _ => ?_) | with_reducible refine m_dn (fun _ => ?_))
theorem mm_BX7_years_54 {ln : Nat → Nat} {S : HC} {x0 : Nat} {x2 : Int32} {x3 : Int32} {x4 : Int32} {post post' : Int32 → HC → Prop} {K35 K35' : HC → Nat → Int32 → Int32 → Int32 → Prop} (h_post : ∀ u0 u1, post u0 u1 → post' u0 u1) (h_K35 : ∀ u0 u1 u2 u3 u4, K35 u0 u1 u2 u3 u4 → K35' u0 u1 u2 u3 u4) : BX7_years_54 ln post K35 S x0 x2 x3 x4 → BX7_years_54 ln post' K35' S x0 x2 x3 x4 := by
  unfold BX7_years_54
  repeat' (first | with_reducible exact id | with_reducible exact h_post _ _ | with_reducible exact h_K35 _ _ _ _ _ | with_reducible refine m_lt (fun _ => ?_))
theorem mm_LX7_years_35 {ln : Nat → Nat} {post post' : Int32 → HC → Prop} (h_post : ∀ u0 u1, post u0 u1 → post' u0 u1) : ∀ n v0 v1 v2 v3 v4, LX7_years_35 ln post n v0 v1 v2 v3 v4 → LX7_years_35 ln post' n v0 v1 v2 v3 v4 := by
  intro n
  induction n with
  | zero => intros; assumption
  | succ n ih =>
    intro v0 v1 v2 v3 v4
    rw [LX7_years_35, LX7_years_35]
    dsimp only
    repeat' (first | with_reducible exact id | with_reducible exact h_post _ _ | with_reducible exact ih _ _ _ _ _ | with_reducible refine m_lt (fun _ => ?_) | with_reducible refine m_dn (fun _ => ?_) | with_reducible refine m_ite ?_ ?_ | with_reducible refine mm_wpX0_passYear (fun _ _ => ?_) | with_reducible refine mm_BX7_years_54 (fun _ _ => ?_) (fun _ _ _ _ _ => ?_))
theorem mm_BX7_years_11 {ln : Nat → Nat} {S : HC} {post post' : Int32 → HC → Prop} (h_post : ∀ u0 u1, post u0 u1 → post' u0 u1) : BX7_years_11 ln post S → BX7_years_11 ln post' S := by
  unfold BX7_years_11
  repeat' (first | with_reducible exact id | with_reducible exact h_post _ _)
theorem mm_wpX7_years {ln : Nat → Nat} {S : HC} {a0 : Nat} {a1 : Int32} {post post' : Int32 → HC → Prop} (h_post : ∀ u0 u1, post u0 u1 → post' u0 u1) : wpX7_years ln S a0 a1 post → wpX7_years ln S a0 a1 post' := by
  unfold wpX7_years
  repeat' (first | with_reducible exact id | with_reducible exact h_post _ _ | with_reducible refine m_lt (fun _ => ?_) | with_reducible refine m_dn (fun _ => ?_) | with_reducible refine m_ite ?_ ?_ | with_reducible refine m_ex (fun _ => ?_) | with_reducible refine mm_BX7_years_11 (fun _ _ => ?_) | with_reducible refine mm_LX7_years_35 (fun _ _ => ?_) _ _ _ _ _ _)
theorem mm_BX7_alike_27 {ln : Nat → Nat} {S : HC} {post post' : Int32 → HC → Prop} (h_post : ∀ u0 u1, post u0 u1 → post' u0 u1) : BX7_alike_27 ln post S → BX7_alike_27 ln post' S := by
  unfold BX7_alike_27
  repeat' (first | with_reducible exact id | with_reducible exact h_post _ _)
theorem mm_wpX7_alike {ln : Nat → Nat} {S : HC} {a0 : Nat} {a1 : Int32} {a2 : Int32} {post post' : Int32 → HC → Prop} (h_post : ∀ u0 u1, post u0 u1 → post' u0 u1) : wpX7_alike ln S a0 a1 a2 post → wpX7_alike ln S a0 a1 a2 post' := by
  unfold wpX7_alike
  repeat' (first | with_reducible exact id | with_reducible exact h_post _ _ | with_reducible refine m_lt (fun _ => ?_) | with_reducible refine m_dn (fun _ => ?_) | with_reducible refine m_ite ?_ ?_ | with_reducible refine mm_wpX0_has (fun _ _ => ?_) | with_reducible refine mm_BX7_alike_27 (fun _ _ => ?_) | with_reducible refine mm_wpX4_workOutAll (fun _ => ?_) | with_reducible refine mm_wpX4_packed (fun _ _ => ?_))
theorem mm_wpX7_land {ln : Nat → Nat} {S : HC} {a0 : Nat} {a1 : Int32} {post post' : Int32 → HC → Prop} (h_post : ∀ u0 u1, post u0 u1 → post' u0 u1) : wpX7_land ln S a0 a1 post → wpX7_land ln S a0 a1 post' := by
  unfold wpX7_land
  repeat' (first | with_reducible exact id | with_reducible exact h_post _ _ | with_reducible refine m_dn (fun _ => ?_) | with_reducible refine m_ite ?_ ?_ | with_reducible refine mm_wpX4_workOutAll (fun _ => ?_) | with_reducible refine mm_wpX4_clashes (fun _ _ => ?_) | with_reducible refine mm_wpX0_howMany (fun _ _ => ?_) | with_reducible refine mm_wpX0_heiresses (fun _ _ => ?_))
theorem mm_wpX7_sixteenth {ln : Nat → Nat} {S : HC} {a0 : Nat} {a1 : Int32} {post post' : Int32 → HC → Prop} (h_post : ∀ u0 u1, post u0 u1 → post' u0 u1) : wpX7_sixteenth ln S a0 a1 post → wpX7_sixteenth ln S a0 a1 post' := by
  unfold wpX7_sixteenth
  repeat' (first | with_reducible exact id | with_reducible exact h_post _ _ | with_reducible refine m_dn (fun _ => ?_) | with_reducible refine m_ite ?_ ?_ | with_reducible refine mm_wpX7_isCharge (fun _ _ => ?_) | with_reducible refine mm_wpX4_lookAt (fun _ => ?_) | with_reducible refine mm_wpX4_workOut (fun _ => ?_) | with_reducible refine mm_wpX4_bearersOf (fun _ _ => ?_))
theorem mm_BX7_from_18 {ln : Nat → Nat} {S : HC} {post post' : Int32 → HC → Prop} (h_post : ∀ u0 u1, post u0 u1 → post' u0 u1) : BX7_from_18 ln post S → BX7_from_18 ln post' S := by
  unfold BX7_from_18
  repeat' (first | with_reducible exact id | with_reducible exact h_post _ _)
theorem mm_wpX7_from {ln : Nat → Nat} {S : HC} {a0 : Nat} {a1 : Int32} {a2 : Int32} {post post' : Int32 → HC → Prop} (h_post : ∀ u0 u1, post u0 u1 → post' u0 u1) : wpX7_from ln S a0 a1 a2 post → wpX7_from ln S a0 a1 a2 post' := by
  unfold wpX7_from
  repeat' (first | with_reducible exact id | with_reducible exact h_post _ _ | with_reducible refine m_dn (fun _ => ?_) | with_reducible refine m_ite ?_ ?_ | with_reducible refine mm_wpX0_has (fun _ _ => ?_) | with_reducible refine mm_BX7_from_18 (fun _ _ => ?_) | with_reducible refine mm_wpX7_isCharge (fun _ _ => ?_) | with_reducible refine mm_wpX0_oldestFounder (fun _ _ => ?_))
theorem mm_BX7_match_155 {ln : Nat → Nat} {S : HC} {x0 : Nat} {x1 : Int32} {x2 : Int32} {x3 : Int32} {x4 : Int32} {x5 : Int32} {x6 : Int32} {post post' : Int32 → HC → Prop} {K60 K60' : HC → Nat → Int32 → Int32 → Int32 → Int32 → Int32 → Int32 → Prop} (h_post : ∀ u0 u1, post u0 u1 → post' u0 u1) (h_K60 : ∀ u0 u1 u2 u3 u4 u5 u6 u7, K60 u0 u1 u2 u3 u4 u5 u6 u7 → K60' u0 u1 u2 u3 u4 u5 u6 u7) : BX7_match_155 ln post K60 S x0 x1 x2 x3 x4 x5 x6 → BX7_match_155 ln post' K60' S x0 x1 x2 x3 x4 x5 x6 := by
  unfold BX7_match_155
  repeat' (first | with_reducible exact id | with_reducible exact h_post _ _ | with_reducible exact h_K60 _ _ _ _ _ _ _ _ | with_reducible refine m_lt (fun _ => ?_))
theorem mm_BX7_match_147 {ln : Nat → Nat} {S : HC} {x0 : Nat} {x1 : Int32} {x2 : Int32} {x3 : Int32} {x6 : Int32} {x7 : Int32} {post post' : Int32 → HC → Prop} {K60 K60' : HC → Nat → Int32 → Int32 → Int32 → Int32 → Int32 → Int32 → Prop} (h_post : ∀ u0 u1, post u0 u1 → post' u0 u1) (h_K60 : ∀ u0 u1 u2 u3 u4 u5 u6 u7, K60 u0 u1 u2 u3 u4 u5 u6 u7 → K60' u0 u1 u2 u3 u4 u5 u6 u7) : BX7_match_147 ln post K60 S x0 x1 x2 x3 x6 x7 → BX7_match_147 ln post' K60' S x0 x1 x2 x3 x6 x7 := by
  unfold BX7_match_147
  repeat' (first | with_reducible exact id | with_reducible exact h_post _ _ | with_reducible exact h_K60 _ _ _ _ _ _ _ _ | with_reducible refine mm_BX7_match_155 (fun _ _ => ?_) (fun _ _ _ _ _ _ _ _ => ?_))
theorem mm_BX7_match_131 {ln : Nat → Nat} {S : HC} {x0 : Nat} {x1 : Int32} {x2 : Int32} {x3 : Int32} {x4 : Int32} {x5 : Int32} {x6 : Int32} {t0 : Int32} {post post' : Int32 → HC → Prop} {K60 K60' : HC → Nat → Int32 → Int32 → Int32 → Int32 → Int32 → Int32 → Prop} (h_post : ∀ u0 u1, post u0 u1 → post' u0 u1) (h_K60 : ∀ u0 u1 u2 u3 u4 u5 u6 u7, K60 u0 u1 u2 u3 u4 u5 u6 u7 → K60' u0 u1 u2 u3 u4 u5 u6 u7) : BX7_match_131 ln post K60 S x0 x1 x2 x3 x4 x5 x6 t0 → BX7_match_131 ln post' K60' S x0 x1 x2 x3 x4 x5 x6 t0 := by
  unfold BX7_match_131
  repeat' (first | with_reducible exact id | with_reducible exact h_post _ _ | with_reducible exact h_K60 _ _ _ _ _ _ _ _ | with_reducible refine m_ite ?_ ?_ | with_reducible refine mm_BX7_match_147 (fun _ _ => ?_) (fun _ _ _ _ _ _ _ _ => ?_) | with_reducible refine mm_BX7_match_155 (fun _ _ => ?_) (fun _ _ _ _ _ _ _ _ => ?_))
theorem mm_LX7_match_60 {ln : Nat → Nat} {post post' : Int32 → HC → Prop} (h_post : ∀ u0 u1, post u0 u1 → post' u0 u1) : ∀ n v0 v1 v2 v3 v4 v5 v6 v7, LX7_match_60 ln post n v0 v1 v2 v3 v4 v5 v6 v7 → LX7_match_60 ln post' n v0 v1 v2 v3 v4 v5 v6 v7 := by
  intro n
  induction n with
  | zero => intros; assumption
  | succ n ih =>
    intro v0 v1 v2 v3 v4 v5 v6 v7
    rw [LX7_match_60, LX7_match_60]
    dsimp only
    repeat' (first | with_reducible exact id | with_reducible exact h_post _ _ | with_reducible exact ih _ _ _ _ _ _ _ _ | with_reducible refine m_lt (fun _ => ?_) | with_reducible refine m_dn (fun _ => ?_) | with_reducible refine m_al (fun _ => ?_) | with_reducible refine m_ite ?_ ?_ | with_reducible refine mm_BX7_match_155 (fun _ _ => ?_) (fun _ _ _ _ _ _ _ _ => ?_) | with_reducible refine mm_wpX4_joined (fun _ _ => ?_) | with_reducible refine mm_BX7_match_131 (fun _ _ => ?_) (fun _ _ _ _ _ _ _ _ => ?_))
theorem mm_BX7_match_27 {ln : Nat → Nat} {S : HC} {post post' : Int32 → HC → Prop} (h_post : ∀ u0 u1, post u0 u1 → post' u0 u1) : BX7_match_27 ln post S → BX7_match_27 ln post' S := by
  unfold BX7_match_27
  repeat' (first | with_reducible exact id | with_reducible exact h_post _ _)
theorem mm_wpX7_match {ln : Nat → Nat} {S : HC} {a0 : Nat} {a1 : Int32} {a2 : Int32} {a3 : Int32} {post post' : Int32 → HC → Prop} (h_post : ∀ u0 u1, post u0 u1 → post' u0 u1) : wpX7_match ln S a0 a1 a2 a3 post → wpX7_match ln S a0 a1 a2 a3 post' := by
  unfold wpX7_match
  repeat' (first | with_reducible exact id | with_reducible exact h_post _ _ | with_reducible refine m_dn (fun _ => ?_) | with_reducible refine m_ite ?_ ?_ | with_reducible refine m_ex (fun _ => ?_) | with_reducible refine mm_wpX0_has (fun _ _ => ?_) | with_reducible refine mm_BX7_match_27 (fun _ _ => ?_) | with_reducible refine mm_wpX7_isCharge (fun _ _ => ?_) | with_reducible refine mm_wpX4_lookAt (fun _ => ?_) | with_reducible refine mm_wpX4_workOut (fun _ => ?_) | with_reducible refine mm_LX7_match_60 (fun _ _ => ?_) _ _ _ _ _ _ _ _ _)
theorem mm_BX7_repaint_126 {ln : Nat → Nat} {S : HC} {x0 : Nat} {x1 : Int32} {x2 : Int32} {x3 : Int32} {post post' : Int32 → HC → Prop} {K35 K35' : HC → Nat → Int32 → Int32 → Int32 → Prop} (h_post : ∀ u0 u1, post u0 u1 → post' u0 u1) (h_K35 : ∀ u0 u1 u2 u3 u4, K35 u0 u1 u2 u3 u4 → K35' u0 u1 u2 u3 u4) : BX7_repaint_126 ln post K35 S x0 x1 x2 x3 → BX7_repaint_126 ln post' K35' S x0 x1 x2 x3 := by
  unfold BX7_repaint_126
  repeat' (first | with_reducible exact id | with_reducible exact h_post _ _ | with_reducible exact h_K35 _ _ _ _ _ | with_reducible refine m_lt (fun _ => ?_))
theorem mm_BX7_repaint_113 {ln : Nat → Nat} {S : HC} {x0 : Nat} {x1 : Int32} {x2 : Int32} {x3 : Int32} {x4 : Int32} {x5 : Int32} {post post' : Int32 → HC → Prop} {K35 K35' : HC → Nat → Int32 → Int32 → Int32 → Prop} {K73 K73' : HC → Nat → Int32 → Int32 → Int32 → Int32 → Int32 → Prop} (h_post : ∀ u0 u1, post u0 u1 → post' u0 u1) (h_K35 : ∀ u0 u1 u2 u3 u4, K35 u0 u1 u2 u3 u4 → K35' u0 u1 u2 u3 u4) (h_K73 : ∀ u0 u1 u2 u3 u4 u5 u6, K73 u0 u1 u2 u3 u4 u5 u6 → K73' u0 u1 u2 u3 u4 u5 u6) : BX7_repaint_113 ln post K35 K73 S x0 x1 x2 x3 x4 x5 → BX7_repaint_113 ln post' K35' K73' S x0 x1 x2 x3 x4 x5 := by
  unfold BX7_repaint_113
  repeat' (first | with_reducible exact id | with_reducible exact h_post _ _ | with_reducible exact h_K35 _ _ _ _ _ | with_reducible exact h_K73 _ _ _ _ _ _ _ | with_reducible refine m_lt (fun _ => ?_) | with_reducible refine mm_wpX7_repaintThought (fun _ => ?_))
theorem mm_LX7_repaint_73 {ln : Nat → Nat} {post post' : Int32 → HC → Prop} {K35 K35' : HC → Nat → Int32 → Int32 → Int32 → Prop} (h_post : ∀ u0 u1, post u0 u1 → post' u0 u1) (h_K35 : ∀ u0 u1 u2 u3 u4, K35 u0 u1 u2 u3 u4 → K35' u0 u1 u2 u3 u4) : ∀ n v0 v1 v2 v3 v4 v5 v6, LX7_repaint_73 ln post K35 n v0 v1 v2 v3 v4 v5 v6 → LX7_repaint_73 ln post' K35' n v0 v1 v2 v3 v4 v5 v6 := by
  intro n
  induction n with
  | zero => intros; assumption
  | succ n ih =>
    intro v0 v1 v2 v3 v4 v5 v6
    rw [LX7_repaint_73, LX7_repaint_73]
    dsimp only
    repeat' (first | with_reducible exact id | with_reducible exact h_post _ _ | with_reducible exact h_K35 _ _ _ _ _ | with_reducible exact ih _ _ _ _ _ _ _ | with_reducible refine m_lt (fun _ => ?_) | with_reducible refine m_dn (fun _ => ?_) | with_reducible refine m_ite ?_ ?_ | with_reducible refine mm_BX7_repaint_126 (fun _ _ => ?_) (fun _ _ _ _ _ => ?_) | with_reducible refine mm_wpX7_repaintThought (fun _ => ?_) | with_reducible refine mm_wpX4_clashes (fun _ _ => ?_) | with_reducible refine mm_BX7_repaint_113 (fun _ _ => ?_) (fun _ _ _ _ _ => ?_) (fun _ _ _ _ _ _ _ => ?_))
theorem mm_LX7_repaint_35 {ln : Nat → Nat} {post post' : Int32 → HC → Prop} (h_post : ∀ u0 u1, post u0 u1 → post' u0 u1) : ∀ n v0 v1 v2 v3 v4, LX7_repaint_35 ln post n v0 v1 v2 v3 v4 → LX7_repaint_35 ln post' n v0 v1 v2 v3 v4 := by
  intro n
  induction n with
  | zero => intros; assumption
  | succ n ih =>
    intro v0 v1 v2 v3 v4
    rw [LX7_repaint_35, LX7_repaint_35]
    dsimp only
    repeat' (first | with_reducible exact id | with_reducible exact h_post _ _ | with_reducible exact ih _ _ _ _ _ | with_reducible refine m_lt (fun _ => ?_) | with_reducible refine m_dn (fun _ => ?_) | with_reducible refine m_al (fun _ => ?_) | with_reducible refine m_ite ?_ ?_ | with_reducible refine m_ex (fun _ => ?_) | with_reducible refine mm_LX7_repaint_73 (fun _ _ => ?_) (fun _ _ _ _ _ => ?_) _ _ _ _ _ _ _ _ | with_reducible refine mm_BX7_repaint_126 (fun _ _ => ?_) (fun _ _ _ _ _ => ?_))
theorem mm_wpX7_repaint {ln : Nat → Nat} {S : HC} {a0 : Nat} {post post' : Int32 → HC → Prop} (h_post : ∀ u0 u1, post u0 u1 → post' u0 u1) : wpX7_repaint ln S a0 post → wpX7_repaint ln S a0 post' := by
  unfold wpX7_repaint
  repeat' (first | with_reducible exact id | with_reducible exact h_post _ _ | with_reducible refine m_dn (fun _ => ?_) | with_reducible refine m_ex (fun _ => ?_) | with_reducible refine mm_wpX0_become (fun _ => ?_) | with_reducible refine mm_wpX4_workOutAll (fun _ => ?_) | with_reducible refine mm_wpX4_clashes (fun _ _ => ?_) | with_reducible refine mm_LX7_repaint_35 (fun _ _ => ?_) _ _ _ _ _ _)
theorem mm_BX7_behind_20 {ln : Nat → Nat} {S : HC} {post post' : Int32 → HC → Prop} (h_post : ∀ u0 u1, post u0 u1 → post' u0 u1) : BX7_behind_20 ln post S → BX7_behind_20 ln post' S := by
  unfold BX7_behind_20
  repeat' (first | with_reducible exact id | with_reducible exact h_post _ _)
theorem mm_wpX7_behind {ln : Nat → Nat} {S : HC} {a0 : Nat} {a1 : Int32} {a2 : Int32} {post post' : Int32 → HC → Prop} (h_post : ∀ u0 u1, post u0 u1 → post' u0 u1) : wpX7_behind ln S a0 a1 a2 post → wpX7_behind ln S a0 a1 a2 post' := by
  unfold wpX7_behind
  repeat' (first | with_reducible exact id | with_reducible exact h_post _ _ | with_reducible refine m_lt (fun _ => ?_) | with_reducible refine m_dn (fun _ => ?_) | with_reducible refine m_ite ?_ ?_ | with_reducible refine mm_BX7_behind_20 (fun _ _ => ?_) | with_reducible refine mm_wpX7_think (fun _ => ?_) | with_reducible refine mm_wpX4_workOutAll (fun _ => ?_) | with_reducible refine mm_wpX4_clashes (fun _ _ => ?_) | with_reducible refine mm_wpX7_allBear (fun _ _ => ?_))
theorem mm_LX7_born_13 {ln : Nat → Nat} {post post' : Int32 → HC → Prop} (h_post : ∀ u0 u1, post u0 u1 → post' u0 u1) : ∀ n v0 v1 v2, LX7_born_13 ln post n v0 v1 v2 → LX7_born_13 ln post' n v0 v1 v2 := by
  intro n
  induction n with
  | zero => intros; assumption
  | succ n ih =>
    intro v0 v1 v2
    rw [LX7_born_13, LX7_born_13]
    dsimp only
    repeat' (first | with_reducible exact id | with_reducible exact h_post _ _ | with_reducible exact ih _ _ _ | with_reducible refine m_lt (fun _ => ?_) | with_reducible refine m_dn (fun _ => ?_) | with_reducible refine m_ite ?_ ?_ | with_reducible refine mm_wpX0_passYear (fun _ _ => ?_))
theorem mm_wpX7_born {ln : Nat → Nat} {S : HC} {a0 : Nat} {post post' : Int32 → HC → Prop} (h_post : ∀ u0 u1, post u0 u1 → post' u0 u1) : wpX7_born ln S a0 post → wpX7_born ln S a0 post' := by
  unfold wpX7_born
  repeat' (first | with_reducible exact id | with_reducible exact h_post _ _ | with_reducible refine m_dn (fun _ => ?_) | with_reducible refine m_ex (fun _ => ?_) | with_reducible refine mm_wpX0_become (fun _ => ?_) | with_reducible refine mm_LX7_born_13 (fun _ _ => ?_) _ _ _ _)
theorem mm_BX7_gone_83 {ln : Nat → Nat} {S : HC} {x0 : Nat} {x2 : Int32} {x3 : Int32} {x4 : Int32} {x5 : Int32} {post post' : Int32 → HC → Prop} {K47 K47' : HC → Nat → Int32 → Int32 → Int32 → Int32 → Prop} (h_post : ∀ u0 u1, post u0 u1 → post' u0 u1) (h_K47 : ∀ u0 u1 u2 u3 u4 u5, K47 u0 u1 u2 u3 u4 u5 → K47' u0 u1 u2 u3 u4 u5) : BX7_gone_83 ln post K47 S x0 x2 x3 x4 x5 → BX7_gone_83 ln post' K47' S x0 x2 x3 x4 x5 := by
  unfold BX7_gone_83
  repeat' (first | with_reducible exact id | with_reducible exact h_post _ _ | with_reducible exact h_K47 _ _ _ _ _ _ | with_reducible refine m_lt (fun _ => ?_))
theorem mm_LX7_gone_47 {ln : Nat → Nat} {post post' : Int32 → HC → Prop} (h_post : ∀ u0 u1, post u0 u1 → post' u0 u1) : ∀ n v0 v1 v2 v3 v4 v5, LX7_gone_47 ln post n v0 v1 v2 v3 v4 v5 → LX7_gone_47 ln post' n v0 v1 v2 v3 v4 v5 := by
  intro n
  induction n with
  | zero => intros; assumption
  | succ n ih =>
    intro v0 v1 v2 v3 v4 v5
    rw [LX7_gone_47, LX7_gone_47]
    dsimp only
    repeat' (first | with_reducible exact id | with_reducible exact h_post _ _ | with_reducible exact ih _ _ _ _ _ _ | with_reducible refine m_dn (fun _ => ?_) | with_reducible refine m_ite ?_ ?_ | with_reducible refine mm_wpX4_bearersOf (fun _ _ => ?_) | with_reducible refine mm_wpJ6_bitCount_0f7a4 (fun _ _ => ?_) | with_reducible refine mm_BX7_gone_83 (fun _ _ => ?_) (fun _ _ _ _ _ _ => ?_))
theorem mm_BX7_gone_19 {ln : Nat → Nat} {S : HC} {post post' : Int32 → HC → Prop} (h_post : ∀ u0 u1, post u0 u1 → post' u0 u1) : BX7_gone_19 ln post S → BX7_gone_19 ln post' S := by
  unfold BX7_gone_19
  repeat' (first | with_reducible exact id | with_reducible exact h_post _ _)
theorem mm_wpX7_gone {ln : Nat → Nat} {S : HC} {a0 : Nat} {a1 : Int32} {a2 : Int32} {post post' : Int32 → HC → Prop} (h_post : ∀ u0 u1, post u0 u1 → post' u0 u1) : wpX7_gone ln S a0 a1 a2 post → wpX7_gone ln S a0 a1 a2 post' := by
  unfold wpX7_gone
  repeat' (first | with_reducible exact id | with_reducible exact h_post _ _ | with_reducible refine m_dn (fun _ => ?_) | with_reducible refine m_ite ?_ ?_ | with_reducible refine m_ex (fun _ => ?_) | with_reducible refine mm_BX7_gone_19 (fun _ _ => ?_) | with_reducible refine mm_wpX7_think (fun _ => ?_) | with_reducible refine mm_wpX4_workOutAll (fun _ => ?_) | with_reducible refine mm_LX7_gone_47 (fun _ _ => ?_) _ _ _ _ _ _ _)
theorem mm_BX7_spoon_104 {ln : Nat → Nat} {S : HC} {x0 : Nat} {x2 : Int32} {x3 : Nat} {x4 : Int32} {x5 : Int32} {x6 : Int32} {post post' : Int32 → HC → Prop} {K58 K58' : HC → Nat → Int32 → Nat → Int32 → Int32 → Int32 → Prop} (h_post : ∀ u0 u1, post u0 u1 → post' u0 u1) (h_K58 : ∀ u0 u1 u2 u3 u4 u5 u6, K58 u0 u1 u2 u3 u4 u5 u6 → K58' u0 u1 u2 u3 u4 u5 u6) : BX7_spoon_104 ln post K58 S x0 x2 x3 x4 x5 x6 → BX7_spoon_104 ln post' K58' S x0 x2 x3 x4 x5 x6 := by
  unfold BX7_spoon_104
  repeat' (first | with_reducible exact id | with_reducible exact h_post _ _ | with_reducible exact h_K58 _ _ _ _ _ _ _ | with_reducible refine m_lt (fun _ => ?_))
theorem mm_BX7_spoon_96 {ln : Nat → Nat} {S : HC} {x0 : Nat} {x2 : Int32} {x3 : Nat} {x6 : Int32} {x7 : Int32} {post post' : Int32 → HC → Prop} {K58 K58' : HC → Nat → Int32 → Nat → Int32 → Int32 → Int32 → Prop} (h_post : ∀ u0 u1, post u0 u1 → post' u0 u1) (h_K58 : ∀ u0 u1 u2 u3 u4 u5 u6, K58 u0 u1 u2 u3 u4 u5 u6 → K58' u0 u1 u2 u3 u4 u5 u6) : BX7_spoon_96 ln post K58 S x0 x2 x3 x6 x7 → BX7_spoon_96 ln post' K58' S x0 x2 x3 x6 x7 := by
  unfold BX7_spoon_96
  repeat' (first | with_reducible exact id | with_reducible exact h_post _ _ | with_reducible exact h_K58 _ _ _ _ _ _ _ | with_reducible refine mm_BX7_spoon_104 (fun _ _ => ?_) (fun _ _ _ _ _ _ _ => ?_))
theorem mm_LX7_spoon_58 {ln : Nat → Nat} {post post' : Int32 → HC → Prop} (h_post : ∀ u0 u1, post u0 u1 → post' u0 u1) : ∀ n v0 v1 v2 v3 v4 v5 v6, LX7_spoon_58 ln post n v0 v1 v2 v3 v4 v5 v6 → LX7_spoon_58 ln post' n v0 v1 v2 v3 v4 v5 v6 := by
  intro n
  induction n with
  | zero => intros; assumption
  | succ n ih =>
    intro v0 v1 v2 v3 v4 v5 v6
    rw [LX7_spoon_58, LX7_spoon_58]
    dsimp only
    repeat' (first | with_reducible exact id | with_reducible exact h_post _ _ | with_reducible exact ih _ _ _ _ _ _ _ | with_reducible refine m_lt (fun _ => ?_) | with_reducible refine m_dn (fun _ => ?_) | with_reducible refine m_ite ?_ ?_ | with_reducible refine mm_wpX4_apart (fun _ _ => ?_) | with_reducible refine mm_BX7_spoon_96 (fun _ _ => ?_) (fun _ _ _ _ _ _ _ => ?_) | with_reducible refine mm_BX7_spoon_104 (fun _ _ => ?_) (fun _ _ _ _ _ _ _ => ?_))
theorem mm_BX7_spoon_16 {ln : Nat → Nat} {S : HC} {post post' : Int32 → HC → Prop} (h_post : ∀ u0 u1, post u0 u1 → post' u0 u1) : BX7_spoon_16 ln post S → BX7_spoon_16 ln post' S := by
  unfold BX7_spoon_16
  repeat' (first | with_reducible exact id | with_reducible exact h_post _ _)
theorem mm_wpX7_spoon {ln : Nat → Nat} {S : HC} {a0 : Nat} {a1 : Int32} {a2 : Int32} {post post' : Int32 → HC → Prop} (h_post : ∀ u0 u1, post u0 u1 → post' u0 u1) : wpX7_spoon ln S a0 a1 a2 post → wpX7_spoon ln S a0 a1 a2 post' := by
  unfold wpX7_spoon
  repeat' (first | with_reducible exact id | with_reducible exact h_post _ _ | with_reducible refine m_dn (fun _ => ?_) | with_reducible refine m_al (fun _ => ?_) | with_reducible refine m_ite ?_ ?_ | with_reducible refine m_ex (fun _ => ?_) | with_reducible refine mm_wpX7_isSheet (fun _ _ => ?_) | with_reducible refine mm_BX7_spoon_16 (fun _ _ => ?_) | with_reducible refine mm_wpX3_isMissing (fun _ _ => ?_) | with_reducible refine mm_wpX4_workOutAll (fun _ => ?_) | with_reducible refine mm_LX7_spoon_58 (fun _ _ => ?_) _ _ _ _ _ _ _ _)
theorem mm_wpX7_fee {ln : Nat → Nat} {S : HC} {a0 : Nat} {post post' : Int32 → HC → Prop} (h_post : ∀ u0 u1, post u0 u1 → post' u0 u1) : wpX7_fee ln S a0 post → wpX7_fee ln S a0 post' := by
  unfold wpX7_fee
  repeat' (first | with_reducible exact id | with_reducible exact h_post _ _ | with_reducible refine m_lt (fun _ => ?_) | with_reducible refine m_dn (fun _ => ?_) | with_reducible refine m_cO ?_ (fun _ => ?_) | with_reducible refine mm_wpX0_lawFor (fun _ _ => ?_) | with_reducible refine mm_wpX1_give (fun _ _ => ?_))
theorem mm_wpX7_fine {ln : Nat → Nat} {S : HC} {a0 : Nat} {a1 : Int32} {post post' : Int32 → HC → Prop} (h_post : ∀ u0 u1, post u0 u1 → post' u0 u1) : wpX7_fine ln S a0 a1 post → wpX7_fine ln S a0 a1 post' := by
  unfold wpX7_fine
  repeat' (first | with_reducible exact id | with_reducible exact h_post _ _ | with_reducible refine m_dn (fun _ => ?_) | with_reducible refine m_al (fun _ => ?_) | with_reducible refine m_cO ?_ (fun _ => ?_) | with_reducible refine m_ite ?_ ?_ | with_reducible refine mm_wpX0_has (fun _ _ => ?_) | with_reducible refine mm_wpX0_lawFor (fun _ _ => ?_) | with_reducible refine mm_wpJ6_bitCount_0f7a4 (fun _ _ => ?_) | with_reducible refine mm_wpX1_give (fun _ _ => ?_))
theorem mm_wpX7_feed {ln : Nat → Nat} {S : HC} {a0 : Nat} {a1 : Int32} {a2 : Int32} {a3 : Int32} {post post' : Int32 → HC → Prop} (h_post : ∀ u0 u1, post u0 u1 → post' u0 u1) : wpX7_feed ln S a0 a1 a2 a3 post → wpX7_feed ln S a0 a1 a2 a3 post' := by
  unfold wpX7_feed
  repeat' (first | with_reducible exact id | with_reducible exact h_post _ _ | with_reducible refine m_lt (fun _ => ?_) | with_reducible refine m_dn (fun _ => ?_) | with_reducible refine m_ite ?_ ?_ | with_reducible refine mm_wpX6_take (fun _ => ?_))
theorem mm_BX7_trim_18 {ln : Nat → Nat} {S : HC} {post post' : Int32 → HC → Prop} (h_post : ∀ u0 u1, post u0 u1 → post' u0 u1) : BX7_trim_18 ln post S → BX7_trim_18 ln post' S := by
  unfold BX7_trim_18
  repeat' (first | with_reducible exact id | with_reducible exact h_post _ _)
theorem mm_wpX7_trim {ln : Nat → Nat} {S : HC} {a0 : Nat} {a1 : Int32} {post post' : Int32 → HC → Prop} (h_post : ∀ u0 u1, post u0 u1 → post' u0 u1) : wpX7_trim ln S a0 a1 post → wpX7_trim ln S a0 a1 post' := by
  unfold wpX7_trim
  repeat' (first | with_reducible exact id | with_reducible exact h_post _ _ | with_reducible refine m_lt (fun _ => ?_) | with_reducible refine m_dn (fun _ => ?_) | with_reducible refine m_ite ?_ ?_ | with_reducible refine mm_BX7_trim_18 (fun _ _ => ?_))
theorem mm_BX7_textTold_30 {ln : Nat → Nat} {S : HC} {post post' : Int32 → HC → Prop} (h_post : ∀ u0 u1, post u0 u1 → post' u0 u1) : BX7_textTold_30 ln post S → BX7_textTold_30 ln post' S := by
  unfold BX7_textTold_30
  repeat' (first | with_reducible exact id | with_reducible exact h_post _ _)
theorem mm_wpX7_textTold {ln : Nat → Nat} {S : HC} {a0 : Nat} {a1 : Int32} {a2 : Int32} {post post' : Int32 → HC → Prop} (h_post : ∀ u0 u1, post u0 u1 → post' u0 u1) : wpX7_textTold ln S a0 a1 a2 post → wpX7_textTold ln S a0 a1 a2 post' := by
  unfold wpX7_textTold
  repeat' (first | with_reducible exact id | with_reducible exact h_post _ _ | with_reducible refine m_lt (fun _ => ?_) | with_reducible refine m_dn (fun _ => ?_) | with_reducible refine m_al (fun _ => ?_) | with_reducible refine m_cO ?_ (fun _ => ?_) | with_reducible refine m_ite ?_ ?_ | with_reducible refine mm_BX7_textTold_30 (fun _ _ => ?_))
theorem mm_BX7_why_9 {ln : Nat → Nat} {S : HC} {post post' : Int32 → HC → Prop} (h_post : ∀ u0 u1, post u0 u1 → post' u0 u1) : BX7_why_9 ln post S → BX7_why_9 ln post' S := by
  unfold BX7_why_9
  repeat' (first | with_reducible exact id | with_reducible exact h_post _ _)
theorem mm_wpX7_why {ln : Nat → Nat} {S : HC} {a0 : Nat} {a1 : Int32} {post post' : Int32 → HC → Prop} (h_post : ∀ u0 u1, post u0 u1 → post' u0 u1) : wpX7_why ln S a0 a1 post → wpX7_why ln S a0 a1 post' := by
  unfold wpX7_why
  repeat' (first | with_reducible exact id | with_reducible exact h_post _ _ | with_reducible refine m_dn (fun _ => ?_) | with_reducible refine m_ite ?_ ?_ | with_reducible refine mm_BX7_why_9 (fun _ _ => ?_) | with_reducible refine mm_wpX0_lastLaw (fun _ _ => ?_))
theorem mm_BX7_sheet_17 {ln : Nat → Nat} {S : HC} {post post' : Int32 → HC → Prop} (h_post : ∀ u0 u1, post u0 u1 → post' u0 u1) : BX7_sheet_17 ln post S → BX7_sheet_17 ln post' S := by
  unfold BX7_sheet_17
  repeat' (first | with_reducible exact id | with_reducible exact h_post _ _)
theorem mm_wpX7_sheet {ln : Nat → Nat} {S : HC} {a0 : Nat} {a1 : Int32} {a2 : Int32} {a3 : Int32} {post post' : Int32 → HC → Prop} (h_post : ∀ u0 u1, post u0 u1 → post' u0 u1) : wpX7_sheet ln S a0 a1 a2 a3 post → wpX7_sheet ln S a0 a1 a2 a3 post' := by
  unfold wpX7_sheet
  repeat' (first | with_reducible exact id | with_reducible exact h_post _ _ | with_reducible refine m_dn (fun _ => ?_) | with_reducible refine m_al (fun _ => ?_) | with_reducible refine m_ite ?_ ?_ | with_reducible refine mm_wpX7_isSheet (fun _ _ => ?_) | with_reducible refine mm_BX7_sheet_17 (fun _ _ => ?_) | with_reducible refine mm_wpX3_beginAs (fun _ => ?_))
theorem mm_BX7_mark_93 {ln : Nat → Nat} {S : HC} {x2 : Int32} {x3 : Int32} {x4 : Nat} {post post' : Int32 → HC → Prop} (h_post : ∀ u0 u1, post u0 u1 → post' u0 u1) : BX7_mark_93 ln post S x2 x3 x4 → BX7_mark_93 ln post' S x2 x3 x4 := by
  unfold BX7_mark_93
  repeat' (first | with_reducible exact id | with_reducible exact h_post _ _ | with_reducible refine m_dn (fun _ => ?_) | with_reducible refine m_as (fun _ => ?_))
theorem mm_BX7_mark_90 {ln : Nat → Nat} {S : HC} {post post' : Int32 → HC → Prop} (h_post : ∀ u0 u1, post u0 u1 → post' u0 u1) : BX7_mark_90 ln post S → BX7_mark_90 ln post' S := by
  unfold BX7_mark_90
  repeat' (first | with_reducible exact id | with_reducible exact h_post _ _)
theorem mm_wpX7_mark {ln : Nat → Nat} {S : HC} {a0 : Nat} {a1 : Int32} {a2 : Int32} {a3 : Int32} {post post' : Int32 → HC → Prop} (h_post : ∀ u0 u1, post u0 u1 → post' u0 u1) : wpX7_mark ln S a0 a1 a2 a3 post → wpX7_mark ln S a0 a1 a2 a3 post' := by
  unfold wpX7_mark
  repeat' (first | with_reducible exact id | with_reducible exact h_post _ _ | with_reducible refine m_lt (fun _ => ?_) | with_reducible refine m_dn (fun _ => ?_) | with_reducible refine m_al (fun _ => ?_) | with_reducible refine m_as (fun _ => ?_) | with_reducible refine m_ite ?_ ?_ | with_reducible refine mm_wpX7_isSheet (fun _ _ => ?_) | with_reducible refine mm_wpX3_isMissing (fun _ _ => ?_) | with_reducible refine mm_wpX3_hasPlace (fun _ _ => ?_) | with_reducible refine mm_BX7_mark_93 (fun _ _ => ?_) | with_reducible refine mm_BX7_mark_90 (fun _ _ => ?_))
theorem mm_BX7_pour_98 {ln : Nat → Nat} {S : HC} {x0 : Nat} {x2 : Nat} {x3 : Int32} {x4 : Int32} {post post' : Int32 → HC → Prop} {K32 K32' : HC → Nat → Nat → Int32 → Int32 → Prop} (h_post : ∀ u0 u1, post u0 u1 → post' u0 u1) (h_K32 : ∀ u0 u1 u2 u3 u4, K32 u0 u1 u2 u3 u4 → K32' u0 u1 u2 u3 u4) : BX7_pour_98 ln post K32 S x0 x2 x3 x4 → BX7_pour_98 ln post' K32' S x0 x2 x3 x4 := by
  unfold BX7_pour_98
  repeat' (first | with_reducible exact id | with_reducible exact h_post _ _ | with_reducible exact h_K32 _ _ _ _ _ | with_reducible refine m_lt (fun _ => ?_))
theorem mm_LX7_pour_32 {ln : Nat → Nat} {post post' : Int32 → HC → Prop} (h_post : ∀ u0 u1, post u0 u1 → post' u0 u1) : ∀ n v0 v1 v2 v3 v4, LX7_pour_32 ln post n v0 v1 v2 v3 v4 → LX7_pour_32 ln post' n v0 v1 v2 v3 v4 := by
  intro n
  induction n with
  | zero => intros; assumption
  | succ n ih =>
    intro v0 v1 v2 v3 v4
    rw [LX7_pour_32, LX7_pour_32]
    dsimp only
    repeat' (first | with_reducible exact id | with_reducible exact h_post _ _ | with_reducible exact ih _ _ _ _ _ | with_reducible refine m_lt (fun _ => ?_) | with_reducible refine m_dn (fun _ => ?_) | with_reducible refine m_al (fun _ => ?_) | with_reducible refine m_as (fun _ => ?_) | with_reducible refine m_ite ?_ ?_ | with_reducible refine mm_wpX3_isNumber (fun _ _ => ?_) | with_reducible refine mm_BX7_pour_98 (fun _ _ => ?_) (fun _ _ _ _ _ => ?_) | with_reducible refine mm_wpX7_within (fun _ _ => ?_))
theorem mm_wpX7_pour {ln : Nat → Nat} {S : HC} {a0 : Nat} {a1 : Int32} {post post' : Int32 → HC → Prop} (h_post : ∀ u0 u1, post u0 u1 → post' u0 u1) : wpX7_pour ln S a0 a1 post → wpX7_pour ln S a0 a1 post' := by
  unfold wpX7_pour
  repeat' (first | with_reducible exact id | with_reducible exact h_post _ _ | with_reducible refine m_dn (fun _ => ?_) | with_reducible refine m_al (fun _ => ?_) | with_reducible refine m_ite ?_ ?_ | with_reducible refine m_ex (fun _ => ?_) | with_reducible refine mm_wpX7_isSheet (fun _ _ => ?_) | with_reducible refine mm_wpX3_isMissing (fun _ _ => ?_) | with_reducible refine mm_LX7_pour_32 (fun _ _ => ?_) _ _ _ _ _ _)
theorem mm_BX7_reads_76 {ln : Nat → Nat} {S : HC} {x0 : Nat} {x2 : Nat} {x3 : Int32} {post post' : Int32 → HC → Prop} {K29 K29' : HC → Nat → Nat → Int32 → Prop} (h_post : ∀ u0 u1, post u0 u1 → post' u0 u1) (h_K29 : ∀ u0 u1 u2 u3, K29 u0 u1 u2 u3 → K29' u0 u1 u2 u3) : BX7_reads_76 ln post K29 S x0 x2 x3 → BX7_reads_76 ln post' K29' S x0 x2 x3 := by
  unfold BX7_reads_76
  repeat' (first | with_reducible exact id | with_reducible exact h_post _ _ | with_reducible exact h_K29 _ _ _ _ | with_reducible refine m_lt (fun _ => ?_))
theorem mm_BX7_reads_74 {ln : Nat → Nat} {S : HC} {x3 : Int32} {post post' : Int32 → HC → Prop} {K29 K29' : HC → Nat → Nat → Int32 → Prop} (h_post : ∀ u0 u1, post u0 u1 → post' u0 u1) (h_K29 : ∀ u0 u1 u2 u3, K29 u0 u1 u2 u3 → K29' u0 u1 u2 u3) : BX7_reads_74 ln post K29 S x3 → BX7_reads_74 ln post' K29' S x3 := by
  unfold BX7_reads_74
  repeat' (first | with_reducible exact id | with_reducible exact h_post _ _ | with_reducible exact h_K29 _ _ _ _)
theorem mm_LX7_reads_29 {ln : Nat → Nat} {post post' : Int32 → HC → Prop} (h_post : ∀ u0 u1, post u0 u1 → post' u0 u1) : ∀ n v0 v1 v2 v3, LX7_reads_29 ln post n v0 v1 v2 v3 → LX7_reads_29 ln post' n v0 v1 v2 v3 := by
  intro n
  induction n with
  | zero => intros; assumption
  | succ n ih =>
    intro v0 v1 v2 v3
    rw [LX7_reads_29, LX7_reads_29]
    dsimp only
    repeat' (first | with_reducible exact id | with_reducible exact h_post _ _ | with_reducible exact ih _ _ _ _ | with_reducible refine m_lt (fun _ => ?_) | with_reducible refine m_dn (fun _ => ?_) | with_reducible refine m_al (fun _ => ?_) | with_reducible refine m_ite ?_ ?_ | with_reducible refine mm_wpX3_isNumber (fun _ _ => ?_) | with_reducible refine mm_BX7_reads_76 (fun _ _ => ?_) (fun _ _ _ _ => ?_) | with_reducible refine mm_wpX0_has (fun _ _ => ?_) | with_reducible refine mm_BX7_reads_74 (fun _ _ => ?_) (fun _ _ _ _ => ?_))
theorem mm_wpX7_reads {ln : Nat → Nat} {S : HC} {a0 : Nat} {a1 : Int32} {post post' : Int32 → HC → Prop} (h_post : ∀ u0 u1, post u0 u1 → post' u0 u1) : wpX7_reads ln S a0 a1 post → wpX7_reads ln S a0 a1 post' := by
  unfold wpX7_reads
  repeat' (first | with_reducible exact id | with_reducible exact h_post _ _ | with_reducible refine m_dn (fun _ => ?_) | with_reducible refine m_al (fun _ => ?_) | with_reducible refine m_ite ?_ ?_ | with_reducible refine m_ex (fun _ => ?_) | with_reducible refine mm_wpX7_isSheet (fun _ _ => ?_) | with_reducible refine mm_wpX3_isMissing (fun _ _ => ?_) | with_reducible refine mm_LX7_reads_29 (fun _ _ => ?_) _ _ _ _ _)
theorem mm_BX7_copy_91 {ln : Nat → Nat} {S : HC} {post post' : Int32 → HC → Prop} (h_post : ∀ u0 u1, post u0 u1 → post' u0 u1) : BX7_copy_91 ln post S → BX7_copy_91 ln post' S := by
  unfold BX7_copy_91
  repeat' (first | with_reducible exact id | with_reducible exact h_post _ _)
theorem mm_BX7_copy_49 {ln : Nat → Nat} {S : HC} {post post' : Int32 → HC → Prop} (h_post : ∀ u0 u1, post u0 u1 → post' u0 u1) : BX7_copy_49 ln post S → BX7_copy_49 ln post' S := by
  unfold BX7_copy_49
  repeat' (first | with_reducible exact id | with_reducible exact h_post _ _)
theorem mm_BX7_copy_14 {ln : Nat → Nat} {S : HC} {post post' : Int32 → HC → Prop} (h_post : ∀ u0 u1, post u0 u1 → post' u0 u1) : BX7_copy_14 ln post S → BX7_copy_14 ln post' S := by
  unfold BX7_copy_14
  repeat' (first | with_reducible exact id | with_reducible exact h_post _ _)
theorem mm_wpX7_copy {ln : Nat → Nat} {S : HC} {a0 : Nat} {a1 : Int32} {a2 : Int32} {a3 : Int32} {a4 : Int32} {a5 : Int32} {post post' : Int32 → HC → Prop} (h_post : ∀ u0 u1, post u0 u1 → post' u0 u1) : wpX7_copy ln S a0 a1 a2 a3 a4 a5 post → wpX7_copy ln S a0 a1 a2 a3 a4 a5 post' := by
  unfold wpX7_copy
  repeat' (first | with_reducible exact id | with_reducible exact h_post _ _ | with_reducible refine m_lt (fun _ => ?_) | with_reducible refine m_dn (fun _ => ?_) | with_reducible refine m_al (fun _ => ?_) | with_reducible refine m_cp (fun _ => ?_) | with_reducible refine m_ite ?_ ?_ | with_reducible refine mm_wpX7_isSheet (fun _ _ => ?_) | with_reducible refine mm_BX7_copy_14 (fun _ _ => ?_) | with_reducible refine mm_wpX3_isMissing (fun _ _ => ?_) | with_reducible refine mm_wpX3_hasSpan (fun _ _ => ?_) | with_reducible refine mm_BX7_copy_91 (fun _ _ => ?_) | with_reducible refine mm_BX7_copy_49 (fun _ _ => ?_))
theorem mm_BX7_lay_155 {ln : Nat → Nat} {S : HC} {x5 : Int32} {post post' : Int32 → HC → Prop} (h_post : ∀ u0 u1, post u0 u1 → post' u0 u1) : BX7_lay_155 ln post S x5 → BX7_lay_155 ln post' S x5 := by
  unfold BX7_lay_155
  repeat' (first | with_reducible exact id | with_reducible exact h_post _ _)
theorem mm_BX7_lay_70 {ln : Nat → Nat} {S : HC} {x0 : Nat} {x1 : Int32} {x2 : Int32} {x3 : Int32} {post post' : Int32 → HC → Prop} (h_post : ∀ u0 u1, post u0 u1 → post' u0 u1) : BX7_lay_70 ln post S x0 x1 x2 x3 → BX7_lay_70 ln post' S x0 x1 x2 x3 := by
  unfold BX7_lay_70
  repeat' (first | with_reducible exact id | with_reducible exact h_post _ _ | with_reducible refine m_lt (fun _ => ?_) | with_reducible refine m_dn (fun _ => ?_) | with_reducible refine m_al (fun _ => ?_) | with_reducible refine m_ite ?_ ?_ | with_reducible refine mm_BX7_lay_155 (fun _ _ => ?_) | with_reducible refine mm_wpX3_become (fun _ => ?_))
theorem mm_BX7_lay_50 {ln : Nat → Nat} {S : HC} {x0 : Nat} {x1 : Int32} {x2 : Int32} {x3 : Int32} {post post' : Int32 → HC → Prop} (h_post : ∀ u0 u1, post u0 u1 → post' u0 u1) : BX7_lay_50 ln post S x0 x1 x2 x3 → BX7_lay_50 ln post' S x0 x1 x2 x3 := by
  unfold BX7_lay_50
  repeat' (first | with_reducible exact id | with_reducible exact h_post _ _ | with_reducible refine m_dn (fun _ => ?_) | with_reducible refine m_al (fun _ => ?_) | with_reducible refine m_ite ?_ ?_ | with_reducible refine mm_wpX3_isMissing (fun _ _ => ?_) | with_reducible refine mm_BX7_lay_70 (fun _ _ => ?_))
theorem mm_BX7_lay_47 {ln : Nat → Nat} {S : HC} {post post' : Int32 → HC → Prop} (h_post : ∀ u0 u1, post u0 u1 → post' u0 u1) : BX7_lay_47 ln post S → BX7_lay_47 ln post' S := by
  unfold BX7_lay_47
  repeat' (first | with_reducible exact id | with_reducible exact h_post _ _)
theorem mm_BX7_lay_35 {ln : Nat → Nat} {S : HC} {x0 : Nat} {x1 : Int32} {x2 : Int32} {x3 : Int32} {post post' : Int32 → HC → Prop} (h_post : ∀ u0 u1, post u0 u1 → post' u0 u1) : BX7_lay_35 ln post S x0 x1 x2 x3 → BX7_lay_35 ln post' S x0 x1 x2 x3 := by
  unfold BX7_lay_35
  repeat' (first | with_reducible exact id | with_reducible exact h_post _ _ | with_reducible refine m_ite ?_ ?_ | with_reducible refine mm_wpX7_isSheet (fun _ _ => ?_) | with_reducible refine mm_BX7_lay_47 (fun _ _ => ?_) | with_reducible refine mm_BX7_lay_50 (fun _ _ => ?_))
theorem mm_BX7_lay_16 {ln : Nat → Nat} {S : HC} {post post' : Int32 → HC → Prop} (h_post : ∀ u0 u1, post u0 u1 → post' u0 u1) : BX7_lay_16 ln post S → BX7_lay_16 ln post' S := by
  unfold BX7_lay_16
  repeat' (first | with_reducible exact id | with_reducible exact h_post _ _)
theorem mm_wpX7_lay {ln : Nat → Nat} {S : HC} {a0 : Nat} {a1 : Int32} {a2 : Int32} {a3 : Int32} {post post' : Int32 → HC → Prop} (h_post : ∀ u0 u1, post u0 u1 → post' u0 u1) : wpX7_lay ln S a0 a1 a2 a3 post → wpX7_lay ln S a0 a1 a2 a3 post' := by
  unfold wpX7_lay
  repeat' (first | with_reducible exact id | with_reducible exact h_post _ _ | with_reducible refine m_dn (fun _ => ?_) | with_reducible refine m_ite ?_ ?_ | with_reducible refine mm_wpX7_isSlot (fun _ _ => ?_) | with_reducible refine mm_BX7_lay_16 (fun _ _ => ?_) | with_reducible refine mm_wpX0_has (fun _ _ => ?_) | with_reducible refine mm_BX7_lay_47 (fun _ _ => ?_) | with_reducible refine mm_BX7_lay_35 (fun _ _ => ?_))
theorem mm_BX7_ask_53 {ln : Nat → Nat} {S : HC} {post post' : Int32 → HC → Prop} (h_post : ∀ u0 u1, post u0 u1 → post' u0 u1) : BX7_ask_53 ln post S → BX7_ask_53 ln post' S := by
  unfold BX7_ask_53
  repeat' (first | with_reducible exact id | with_reducible exact h_post _ _)
theorem mm_BX7_ask_14 {ln : Nat → Nat} {S : HC} {post post' : Int32 → HC → Prop} (h_post : ∀ u0 u1, post u0 u1 → post' u0 u1) : BX7_ask_14 ln post S → BX7_ask_14 ln post' S := by
  unfold BX7_ask_14
  repeat' (first | with_reducible exact id | with_reducible exact h_post _ _)
theorem mm_wpX7_ask {ln : Nat → Nat} {S : HC} {a0 : Nat} {a1 : Int32} {a2 : Int32} {post post' : Int32 → HC → Prop} (h_post : ∀ u0 u1, post u0 u1 → post' u0 u1) : wpX7_ask ln S a0 a1 a2 post → wpX7_ask ln S a0 a1 a2 post' := by
  unfold wpX7_ask
  repeat' (first | with_reducible exact id | with_reducible exact h_post _ _ | with_reducible refine m_lt (fun _ => ?_) | with_reducible refine m_dn (fun _ => ?_) | with_reducible refine m_al (fun _ => ?_) | with_reducible refine m_ite ?_ ?_ | with_reducible refine mm_wpX7_isSlot (fun _ _ => ?_) | with_reducible refine mm_BX7_ask_14 (fun _ _ => ?_) | with_reducible refine mm_wpX7_isKind (fun _ _ => ?_) | with_reducible refine mm_wpX7_isOfKind (fun _ _ => ?_) | with_reducible refine mm_BX7_ask_53 (fun _ _ => ?_) | with_reducible refine mm_wpX7_worthOf (fun _ _ => ?_))
theorem mm_wpX7_item {ln : Nat → Nat} {S : HC} {a0 : Nat} {a1 : Int32} {a2 : Int32} {post post' : Int32 → HC → Prop} (h_post : ∀ u0 u1, post u0 u1 → post' u0 u1) : wpX7_item ln S a0 a1 a2 post → wpX7_item ln S a0 a1 a2 post' := by
  unfold wpX7_item
  repeat' (first | with_reducible exact id | with_reducible exact h_post _ _ | with_reducible refine m_lt (fun _ => ?_) | with_reducible refine m_dn (fun _ => ?_) | with_reducible refine m_al (fun _ => ?_) | with_reducible refine m_ite ?_ ?_ | with_reducible refine mm_wpX7_isSlot (fun _ _ => ?_) | with_reducible refine mm_wpX3_hasPlace (fun _ _ => ?_) | with_reducible refine mm_wpX3_isNumber (fun _ _ => ?_))
theorem mm_wpX7_rest {ln : Nat → Nat} {S : HC} {a0 : Nat} {a1 : Int32} {a2 : Int32} {post post' : Int32 → HC → Prop} (h_post : ∀ u0 u1, post u0 u1 → post' u0 u1) : wpX7_rest ln S a0 a1 a2 post → wpX7_rest ln S a0 a1 a2 post' := by
  unfold wpX7_rest
  repeat' (first | with_reducible exact id | with_reducible exact h_post _ _ | with_reducible refine m_lt (fun _ => ?_) | with_reducible refine m_dn (fun _ => ?_) | with_reducible refine m_al (fun _ => ?_) | with_reducible refine m_ne ?_ | with_reducible refine m_ite ?_ ?_ | with_reducible refine mm_wpX7_isSlot (fun _ _ => ?_))
theorem mm_BX7_tell_16 {ln : Nat → Nat} {S : HC} {post post' : Int32 → HC → Prop} (h_post : ∀ u0 u1, post u0 u1 → post' u0 u1) : BX7_tell_16 ln post S → BX7_tell_16 ln post' S := by
  unfold BX7_tell_16
  repeat' (first | with_reducible exact id | with_reducible exact h_post _ _)
theorem mm_wpX7_tell {ln : Nat → Nat} {S : HC} {a0 : Nat} {a1 : Int32} {post post' : Int32 → HC → Prop} (h_post : ∀ u0 u1, post u0 u1 → post' u0 u1) : wpX7_tell ln S a0 a1 post → wpX7_tell ln S a0 a1 post' := by
  unfold wpX7_tell
  repeat' (first | with_reducible exact id | with_reducible exact h_post _ _ | with_reducible refine m_lt (fun _ => ?_) | with_reducible refine m_dn (fun _ => ?_) | with_reducible refine m_as (fun _ => ?_) | with_reducible refine m_ite ?_ ?_ | with_reducible refine mm_BX7_tell_16 (fun _ _ => ?_))
theorem mm_LX7_check_68 {ln : Nat → Nat} {post post' : Int32 → HC → Prop} (h_post : ∀ u0 u1, post u0 u1 → post' u0 u1) : ∀ n v0 v1 v2 v3 v4 v5, LX7_check_68 ln post n v0 v1 v2 v3 v4 v5 → LX7_check_68 ln post' n v0 v1 v2 v3 v4 v5 := by
  intro n
  induction n with
  | zero => intros; assumption
  | succ n ih =>
    intro v0 v1 v2 v3 v4 v5
    rw [LX7_check_68, LX7_check_68]
    dsimp only
    repeat' (first | with_reducible exact id | with_reducible exact h_post _ _ | with_reducible exact ih _ _ _ _ _ _ | with_reducible refine m_lt (fun _ => ?_) | with_reducible refine m_dn (fun _ => ?_) | with_reducible refine m_ite ?_ ?_ | with_reducible refine mm_wpX0_passYear (fun _ _ => ?_) | with_reducible refine mm_wpX7_isWaiting (fun _ _ => ?_) | with_reducible refine mm_wpX7_allBear (fun _ _ => ?_))
theorem mm_BX7_check_21 {ln : Nat → Nat} {S : HC} {post post' : Int32 → HC → Prop} (h_post : ∀ u0 u1, post u0 u1 → post' u0 u1) : BX7_check_21 ln post S → BX7_check_21 ln post' S := by
  unfold BX7_check_21
  repeat' (first | with_reducible exact id | with_reducible exact h_post _ _)
theorem mm_wpX7_check {ln : Nat → Nat} {S : HC} {a0 : Nat} {a1 : Int32} {post post' : Int32 → HC → Prop} (h_post : ∀ u0 u1, post u0 u1 → post' u0 u1) : wpX7_check ln S a0 a1 post → wpX7_check ln S a0 a1 post' := by
  unfold wpX7_check
  repeat' (first | with_reducible exact id | with_reducible exact h_post _ _ | with_reducible refine m_lt (fun _ => ?_) | with_reducible refine m_dn (fun _ => ?_) | with_reducible refine m_ite ?_ ?_ | with_reducible refine m_ex (fun _ => ?_) | with_reducible refine mm_BX7_check_21 (fun _ _ => ?_) | with_reducible refine mm_wpX0_become (fun _ => ?_) | with_reducible refine mm_LX7_check_68 (fun _ _ => ?_) _ _ _ _ _ _ _)
theorem mm_wpX7_keep {ln : Nat → Nat} {S : HC} {a0 : Nat} {post post' : Int32 → HC → Prop} (h_post : ∀ u0 u1, post u0 u1 → post' u0 u1) : wpX7_keep ln S a0 post → wpX7_keep ln S a0 post' := by
  unfold wpX7_keep
  repeat' (first | with_reducible exact id | with_reducible exact h_post _ _ | with_reducible refine m_lt (fun _ => ?_) | with_reducible refine m_dn (fun _ => ?_) | with_reducible refine mm_wpX0_become (fun _ => ?_))
