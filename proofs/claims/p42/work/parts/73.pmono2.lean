/-! what is wanted behind a call may be weakened, on -/
theorem mm_wpX7_back {ln : Nat → Nat} {S : HC} {a0 : Nat} {post post' : Int32 → HC → Prop} (h_post : ∀ u0 u1, post u0 u1 → post' u0 u1) : wpX7_back ln S a0 post → wpX7_back ln S a0 post' := by
  unfold wpX7_back
  repeat' (first | with_reducible exact id | with_reducible exact h_post _ _ | with_reducible refine m_lt (fun _ => ?_) | with_reducible refine m_dn (fun _ => ?_) | with_reducible refine m_ite ?_ ?_ | with_reducible refine mm_wpX0_become (fun _ => ?_))
theorem mm_wpX7_count {ln : Nat → Nat} {S : HC} {a0 : Nat} {a1 : Int32} {post post' : Int32 → HC → Prop} (h_post : ∀ u0 u1, post u0 u1 → post' u0 u1) : wpX7_count ln S a0 a1 post → wpX7_count ln S a0 a1 post' := by
  unfold wpX7_count
  repeat' (first | with_reducible exact id | with_reducible exact h_post _ _ | with_reducible refine m_lt (fun _ => ?_) | with_reducible refine m_dn (fun _ => ?_) | with_reducible refine m_ite ?_ ?_ | with_reducible refine mm_wpX0_founders (fun _ _ => ?_))
theorem mm_BX8_in_14 {ln : Nat → Nat} {S : HC} {post post' : Int32 → HC → Prop} (h_post : ∀ u0 u1, post u0 u1 → post' u0 u1) : BX8_in_14 ln post S → BX8_in_14 ln post' S := by
  unfold BX8_in_14
  repeat' (first | with_reducible exact id | with_reducible exact h_post _ _ | with_reducible refine m_rb ?_)
theorem mm_wpX8_in {ln : Nat → Nat} {S : HC} {a0 : Int32} {a1 : Int32} {a2 : Int32} {post post' : Int32 → HC → Prop} (h_post : ∀ u0 u1, post u0 u1 → post' u0 u1) : wpX8_in ln S a0 a1 a2 post → wpX8_in ln S a0 a1 a2 post' := by
  unfold wpX8_in
  repeat' (first | with_reducible exact id | with_reducible exact h_post _ _ | with_reducible refine m_rb ?_ | with_reducible refine m_ite ?_ ?_ | with_reducible refine mm_BX8_in_14 (fun _ _ => ?_))
theorem mm_wpX8_within {ln : Nat → Nat} {S : HC} {a0 : Int32} {a1 : Int32} {a2 : Int32} {post post' : Int32 → HC → Prop} (h_post : ∀ u0 u1, post u0 u1 → post' u0 u1) : wpX8_within ln S a0 a1 a2 post → wpX8_within ln S a0 a1 a2 post' := by
  unfold wpX8_within
  repeat' (first | with_reducible exact id | with_reducible exact h_post _ _ | with_reducible refine m_ite ?_ ?_)
theorem mm_LX8_copyAll_2 {ln : Nat → Nat} {post post' : HC → Prop} (h_post : ∀ u0, post u0 → post' u0) : ∀ n v0 v1 v2 v3, LX8_copyAll_2 ln post n v0 v1 v2 v3 → LX8_copyAll_2 ln post' n v0 v1 v2 v3 := by
  intro n
  induction n with
  | zero => intros; assumption
  | succ n ih =>
    intro v0 v1 v2 v3
    rw [LX8_copyAll_2, LX8_copyAll_2]
    dsimp only
    repeat' (first | with_reducible exact id | with_reducible exact h_post _ | with_reducible exact ih _ _ _ _ | with_reducible refine m_lt (fun _ => ?_) | with_reducible refine m_al (fun _ => ?_) | with_reducible refine m_as (fun _ => ?_) | with_reducible refine m_ite ?_ ?_)
theorem mm_wpX8_copyAll {ln : Nat → Nat} {S : HC} {a0 : Nat} {a1 : Nat} {post post' : HC → Prop} (h_post : ∀ u0, post u0 → post' u0) : wpX8_copyAll ln S a0 a1 post → wpX8_copyAll ln S a0 a1 post' := by
  unfold wpX8_copyAll
  repeat' (first | with_reducible exact id | with_reducible exact h_post _ | with_reducible refine m_ex (fun _ => ?_) | with_reducible refine mm_LX8_copyAll_2 (fun _ => ?_) _ _ _ _ _)
theorem mm_wpX8_told0 {ln : Nat → Nat} {S : HC} {a0 : Int32} {post post' : Int32 → HC → Prop} (h_post : ∀ u0 u1, post u0 u1 → post' u0 u1) : wpX8_told0 ln S a0 post → wpX8_told0 ln S a0 post' := by
  unfold wpX8_told0
  repeat' (first | with_reducible exact id | with_reducible exact h_post _ _ | with_reducible refine m_ite ?_ ?_)
theorem mm_wpX8_isOne {ln : Nat → Nat} {S : HC} {a0 : Nat} {a1 : Int32} {post post' : Int32 → HC → Prop} (h_post : ∀ u0 u1, post u0 u1 → post' u0 u1) : wpX8_isOne ln S a0 a1 post → wpX8_isOne ln S a0 a1 post' := by
  unfold wpX8_isOne
  repeat' (first | with_reducible exact id | with_reducible exact h_post _ _ | with_reducible refine m_lt (fun _ => ?_) | with_reducible refine m_dn (fun _ => ?_) | with_reducible refine m_al (fun _ => ?_) | with_reducible refine m_rb ?_ | with_reducible refine mm_wpX8_in (fun _ _ => ?_))
theorem mm_wpX8_isCharge {ln : Nat → Nat} {S : HC} {a0 : Int32} {post post' : Int32 → HC → Prop} (h_post : ∀ u0 u1, post u0 u1 → post' u0 u1) : wpX8_isCharge ln S a0 post → wpX8_isCharge ln S a0 post' := by
  unfold wpX8_isCharge
  repeat' (first | with_reducible exact id | with_reducible exact h_post _ _ | with_reducible refine m_rb ?_ | with_reducible refine mm_wpX8_in (fun _ _ => ?_))
theorem mm_wpX8_of {ln : Nat → Nat} {S : HC} {a0 : Nat} {a1 : Int32} {a2 : Int32} {post post' : Int32 → HC → Prop} (h_post : ∀ u0 u1, post u0 u1 → post' u0 u1) : wpX8_of ln S a0 a1 a2 post → wpX8_of ln S a0 a1 a2 post' := by
  unfold wpX8_of
  repeat' (first | with_reducible exact id | with_reducible exact h_post _ _ | with_reducible refine m_lt (fun _ => ?_) | with_reducible refine m_dn (fun _ => ?_) | with_reducible refine m_al (fun _ => ?_))
theorem mm_wpX8_becomes {ln : Nat → Nat} {S : HC} {a0 : Nat} {a1 : Int32} {a2 : Int32} {post post' : Int32 → HC → Prop} (h_post : ∀ u0 u1, post u0 u1 → post' u0 u1) : wpX8_becomes ln S a0 a1 a2 post → wpX8_becomes ln S a0 a1 a2 post' := by
  unfold wpX8_becomes
  repeat' (first | with_reducible exact id | with_reducible exact h_post _ _ | with_reducible refine m_dn (fun _ => ?_) | with_reducible refine m_al (fun _ => ?_) | with_reducible refine m_as (fun _ => ?_))
theorem mm_wpX8_comes {ln : Nat → Nat} {S : HC} {a0 : Nat} {a1 : Int32} {a2 : Int32} {a3 : Int32} {a4 : Int32} {a5 : Int32} {post post' : Int32 → HC → Prop} (h_post : ∀ u0 u1, post u0 u1 → post' u0 u1) : wpX8_comes ln S a0 a1 a2 a3 a4 a5 post → wpX8_comes ln S a0 a1 a2 a3 a4 a5 post' := by
  unfold wpX8_comes
  repeat' (first | with_reducible exact id | with_reducible exact h_post _ _ | with_reducible refine m_lt (fun _ => ?_) | with_reducible refine m_dn (fun _ => ?_) | with_reducible refine m_al (fun _ => ?_) | with_reducible refine m_as (fun _ => ?_))
theorem mm_BX8_mayBe_27 {ln : Nat → Nat} {S : HC} {post post' : Int32 → HC → Prop} (h_post : ∀ u0 u1, post u0 u1 → post' u0 u1) : BX8_mayBe_27 ln post S → BX8_mayBe_27 ln post' S := by
  unfold BX8_mayBe_27
  repeat' (first | with_reducible exact id | with_reducible exact h_post _ _ | with_reducible refine m_rb ?_)
theorem mm_BX8_mayBe_23 {ln : Nat → Nat} {S : HC} {post post' : Int32 → HC → Prop} (h_post : ∀ u0 u1, post u0 u1 → post' u0 u1) : BX8_mayBe_23 ln post S → BX8_mayBe_23 ln post' S := by
  unfold BX8_mayBe_23
  repeat' (first | with_reducible exact id | with_reducible exact h_post _ _ | with_reducible refine m_rb ?_)
theorem mm_wpX8_mayBe {ln : Nat → Nat} {S : HC} {a0 : Nat} {a1 : Int32} {a2 : Int32} {post post' : Int32 → HC → Prop} (h_post : ∀ u0 u1, post u0 u1 → post' u0 u1) : wpX8_mayBe ln S a0 a1 a2 post → wpX8_mayBe ln S a0 a1 a2 post' := by
  unfold wpX8_mayBe
  repeat' (first | with_reducible exact id | with_reducible exact h_post _ _ | with_reducible refine m_ite ?_ ?_ | with_reducible refine mm_BX8_mayBe_23 (fun _ _ => ?_) | with_reducible refine mm_wpX8_isOne (fun _ _ => ?_) | with_reducible refine mm_BX8_mayBe_27 (fun _ _ => ?_) | with_reducible refine mm_wpX8_of (fun _ _ => ?_))
theorem mm_BX8_person_45 {ln : Nat → Nat} {S : HC} {post post' : Int32 → HC → Prop} (h_post : ∀ u0 u1, post u0 u1 → post' u0 u1) : BX8_person_45 ln post S → BX8_person_45 ln post' S := by
  unfold BX8_person_45
  repeat' (first | with_reducible exact id | with_reducible exact h_post _ _)
theorem mm_wpX8_person {ln : Nat → Nat} {S : HC} {a0 : Nat} {a1 : Int32} {a2 : Int32} {a3 : Int32} {a4 : Int32} {a5 : Int32} {post post' : Int32 → HC → Prop} (h_post : ∀ u0 u1, post u0 u1 → post' u0 u1) : wpX8_person ln S a0 a1 a2 a3 a4 a5 post → wpX8_person ln S a0 a1 a2 a3 a4 a5 post' := by
  unfold wpX8_person
  repeat' (first | with_reducible exact id | with_reducible exact h_post _ _ | with_reducible refine m_dn (fun _ => ?_) | with_reducible refine m_al (fun _ => ?_) | with_reducible refine m_ite ?_ ?_ | with_reducible refine mm_wpX8_in (fun _ _ => ?_) | with_reducible refine mm_BX8_person_45 (fun _ _ => ?_) | with_reducible refine mm_wpX8_mayBe (fun _ _ => ?_) | with_reducible refine mm_wpX8_isCharge (fun _ _ => ?_) | with_reducible refine mm_wpX8_comes (fun _ _ => ?_))
theorem mm_BX8_isHeiress_70 {ln : Nat → Nat} {S : HC} {x0 : Nat} {x1 : Int32} {x3 : Int32} {t0 : Int32} {post post' : Int32 → HC → Prop} {K18 K18' : HC → Nat → Int32 → Int32 → Int32 → Prop} (h_post : ∀ u0 u1, post u0 u1 → post' u0 u1) (h_K18 : ∀ u0 u1 u2 u3 u4, K18 u0 u1 u2 u3 u4 → K18' u0 u1 u2 u3 u4) : BX8_isHeiress_70 ln post K18 S x0 x1 x3 t0 → BX8_isHeiress_70 ln post' K18' S x0 x1 x3 t0 := by
  unfold BX8_isHeiress_70
  repeat' (first | with_reducible exact id | with_reducible exact h_post _ _ | with_reducible exact h_K18 _ _ _ _ _ | with_reducible refine m_lt (fun _ => ?_))
theorem mm_BX8_isHeiress_69 {ln : Nat → Nat} {S : HC} {x0 : Nat} {x1 : Int32} {x3 : Int32} {post post' : Int32 → HC → Prop} {K18 K18' : HC → Nat → Int32 → Int32 → Int32 → Prop} (h_post : ∀ u0 u1, post u0 u1 → post' u0 u1) (h_K18 : ∀ u0 u1 u2 u3 u4, K18 u0 u1 u2 u3 u4 → K18' u0 u1 u2 u3 u4) : BX8_isHeiress_69 ln post K18 S x0 x1 x3 → BX8_isHeiress_69 ln post' K18' S x0 x1 x3 := by
  unfold BX8_isHeiress_69
  repeat' (first | with_reducible exact id | with_reducible exact h_post _ _ | with_reducible exact h_K18 _ _ _ _ _ | with_reducible refine mm_BX8_isHeiress_70 (fun _ _ => ?_) (fun _ _ _ _ _ => ?_))
theorem mm_BX8_isHeiress_65 {ln : Nat → Nat} {S : HC} {x0 : Nat} {x1 : Int32} {x3 : Int32} {post post' : Int32 → HC → Prop} {K18 K18' : HC → Nat → Int32 → Int32 → Int32 → Prop} (h_post : ∀ u0 u1, post u0 u1 → post' u0 u1) (h_K18 : ∀ u0 u1 u2 u3 u4, K18 u0 u1 u2 u3 u4 → K18' u0 u1 u2 u3 u4) : BX8_isHeiress_65 ln post K18 S x0 x1 x3 → BX8_isHeiress_65 ln post' K18' S x0 x1 x3 := by
  unfold BX8_isHeiress_65
  repeat' (first | with_reducible exact id | with_reducible exact h_post _ _ | with_reducible exact h_K18 _ _ _ _ _ | with_reducible refine mm_BX8_isHeiress_70 (fun _ _ => ?_) (fun _ _ _ _ _ => ?_))
theorem mm_LX8_isHeiress_18 {ln : Nat → Nat} {post post' : Int32 → HC → Prop} (h_post : ∀ u0 u1, post u0 u1 → post' u0 u1) : ∀ n v0 v1 v2 v3 v4, LX8_isHeiress_18 ln post n v0 v1 v2 v3 v4 → LX8_isHeiress_18 ln post' n v0 v1 v2 v3 v4 := by
  intro n
  induction n with
  | zero => intros; assumption
  | succ n ih =>
    intro v0 v1 v2 v3 v4
    rw [LX8_isHeiress_18, LX8_isHeiress_18]
    dsimp only
    repeat' (first | with_reducible exact id | with_reducible exact h_post _ _ | with_reducible exact ih _ _ _ _ _ | with_reducible refine m_dn (fun _ => ?_) | with_reducible refine m_al (fun _ => ?_) | with_reducible refine m_rb ?_ | with_reducible refine m_ite ?_ ?_ | with_reducible refine mm_BX8_isHeiress_69 (fun _ _ => ?_) (fun _ _ _ _ _ => ?_) | with_reducible refine mm_wpX8_of (fun _ _ => ?_) | with_reducible refine mm_BX8_isHeiress_65 (fun _ _ => ?_) (fun _ _ _ _ _ => ?_))
theorem mm_BX8_isHeiress_15 {ln : Nat → Nat} {S : HC} {x0 : Nat} {x1 : Int32} {t0 : Int32} {post post' : Int32 → HC → Prop} (h_post : ∀ u0 u1, post u0 u1 → post' u0 u1) : BX8_isHeiress_15 ln post S x0 x1 t0 → BX8_isHeiress_15 ln post' S x0 x1 t0 := by
  unfold BX8_isHeiress_15
  repeat' (first | with_reducible exact id | with_reducible exact h_post _ _ | with_reducible refine m_ex (fun _ => ?_) | with_reducible refine mm_LX8_isHeiress_18 (fun _ _ => ?_) _ _ _ _ _ _)
theorem mm_wpX8_isHeiress {ln : Nat → Nat} {S : HC} {a0 : Nat} {a1 : Int32} {post post' : Int32 → HC → Prop} (h_post : ∀ u0 u1, post u0 u1 → post' u0 u1) : wpX8_isHeiress ln S a0 a1 post → wpX8_isHeiress ln S a0 a1 post' := by
  unfold wpX8_isHeiress
  repeat' (first | with_reducible exact id | with_reducible exact h_post _ _ | with_reducible refine m_ite ?_ ?_ | with_reducible refine mm_wpX8_of (fun _ _ => ?_) | with_reducible refine mm_BX8_isHeiress_15 (fun _ _ => ?_))
theorem mm_wpX8_worthOf {ln : Nat → Nat} {S : HC} {a0 : Nat} {a1 : Int32} {post post' : Int32 → HC → Prop} (h_post : ∀ u0 u1, post u0 u1 → post' u0 u1) : wpX8_worthOf ln S a0 a1 post → wpX8_worthOf ln S a0 a1 post' := by
  unfold wpX8_worthOf
  repeat' (first | with_reducible exact id | with_reducible exact h_post _ _ | with_reducible refine m_lt (fun _ => ?_) | with_reducible refine m_ite ?_ ?_ | with_reducible refine mm_wpX8_of (fun _ _ => ?_))
theorem mm_BX8_told_18 {ln : Nat → Nat} {S : HC} {post post' : Int32 → HC → Prop} (h_post : ∀ u0 u1, post u0 u1 → post' u0 u1) : BX8_told_18 ln post S → BX8_told_18 ln post' S := by
  unfold BX8_told_18
  repeat' (first | with_reducible exact id | with_reducible exact h_post _ _)
theorem mm_wpX8_told {ln : Nat → Nat} {S : HC} {a0 : Nat} {a1 : Int32} {a2 : Int32} {post post' : Int32 → HC → Prop} (h_post : ∀ u0 u1, post u0 u1 → post' u0 u1) : wpX8_told ln S a0 a1 a2 post → wpX8_told ln S a0 a1 a2 post' := by
  unfold wpX8_told
  repeat' (first | with_reducible exact id | with_reducible exact h_post _ _ | with_reducible refine m_ite ?_ ?_ | with_reducible refine mm_wpX8_isOne (fun _ _ => ?_) | with_reducible refine mm_BX8_told_18 (fun _ _ => ?_) | with_reducible refine mm_wpX8_in (fun _ _ => ?_) | with_reducible refine mm_wpX8_worthOf (fun _ _ => ?_) | with_reducible refine mm_wpX8_isHeiress (fun _ _ => ?_) | with_reducible refine mm_wpX8_of (fun _ _ => ?_))
theorem mm_BX8_two_74 {ln : Nat → Nat} {S : HC} {post post' : Int32 → HC → Prop} (h_post : ∀ u0 u1, post u0 u1 → post' u0 u1) : BX8_two_74 ln post S → BX8_two_74 ln post' S := by
  unfold BX8_two_74
  repeat' (first | with_reducible exact id | with_reducible exact h_post _ _)
theorem mm_BX8_two_56 {ln : Nat → Nat} {S : HC} {post post' : Int32 → HC → Prop} (h_post : ∀ u0 u1, post u0 u1 → post' u0 u1) : BX8_two_56 ln post S → BX8_two_56 ln post' S := by
  unfold BX8_two_56
  repeat' (first | with_reducible exact id | with_reducible exact h_post _ _)
theorem mm_wpX8_two {ln : Nat → Nat} {S : HC} {a0 : Int32} {a1 : Int32} {a2 : Int32} {post post' : Int32 → HC → Prop} (h_post : ∀ u0 u1, post u0 u1 → post' u0 u1) : wpX8_two ln S a0 a1 a2 post → wpX8_two ln S a0 a1 a2 post' := by
  unfold wpX8_two
  repeat' (first | with_reducible exact id | with_reducible exact h_post _ _ | with_reducible refine m_lt (fun _ => ?_) | with_reducible refine m_ne ?_ | with_reducible refine m_ite ?_ ?_ | with_reducible refine mm_BX8_two_74 (fun _ _ => ?_) | with_reducible refine mm_BX8_two_56 (fun _ _ => ?_))
theorem mm_LX8_counts_9 {ln : Nat → Nat} {post post' : Int32 → HC → Prop} (h_post : ∀ u0 u1, post u0 u1 → post' u0 u1) : ∀ n v0 v1 v2 v3, LX8_counts_9 ln post n v0 v1 v2 v3 → LX8_counts_9 ln post' n v0 v1 v2 v3 := by
  intro n
  induction n with
  | zero => intros; assumption
  | succ n ih =>
    intro v0 v1 v2 v3
    rw [LX8_counts_9, LX8_counts_9]
    dsimp only
    repeat' (first | with_reducible exact id | with_reducible exact h_post _ _ | with_reducible exact ih _ _ _ _ | with_reducible refine m_lt (fun _ => ?_) | with_reducible refine m_dn (fun _ => ?_) | with_reducible refine m_al (fun _ => ?_) | with_reducible refine m_ne ?_ | with_reducible refine m_ite ?_ ?_)
theorem mm_wpX8_counts {ln : Nat → Nat} {S : HC} {a0 : Nat} {a1 : Int32} {post post' : Int32 → HC → Prop} (h_post : ∀ u0 u1, post u0 u1 → post' u0 u1) : wpX8_counts ln S a0 a1 post → wpX8_counts ln S a0 a1 post' := by
  unfold wpX8_counts
  repeat' (first | with_reducible exact id | with_reducible exact h_post _ _ | with_reducible refine m_lt (fun _ => ?_) | with_reducible refine m_dn (fun _ => ?_) | with_reducible refine m_al (fun _ => ?_) | with_reducible refine m_ex (fun _ => ?_) | with_reducible refine mm_LX8_counts_9 (fun _ _ => ?_) _ _ _ _ _)
theorem mm_BX8_worksOut_149 {ln : Nat → Nat} {S : HC} {x0 : Nat} {x1 : Int32} {x2 : Int32} {x3 : Int32} {x4 : Int32} {post post' : Int32 → HC → Prop} {K21 K21' : HC → Nat → Int32 → Int32 → Int32 → Int32 → Prop} (h_post : ∀ u0 u1, post u0 u1 → post' u0 u1) (h_K21 : ∀ u0 u1 u2 u3 u4 u5, K21 u0 u1 u2 u3 u4 u5 → K21' u0 u1 u2 u3 u4 u5) : BX8_worksOut_149 ln post K21 S x0 x1 x2 x3 x4 → BX8_worksOut_149 ln post' K21' S x0 x1 x2 x3 x4 := by
  unfold BX8_worksOut_149
  repeat' (first | with_reducible exact id | with_reducible exact h_post _ _ | with_reducible exact h_K21 _ _ _ _ _ _ | with_reducible refine m_lt (fun _ => ?_))
theorem mm_BX8_worksOut_115 {ln : Nat → Nat} {S : HC} {x0 : Nat} {x1 : Int32} {x2 : Int32} {x3 : Int32} {x4 : Int32} {t0 : Nat} {t1 : Int32} {t2 : Int32} {post post' : Int32 → HC → Prop} {K21 K21' : HC → Nat → Int32 → Int32 → Int32 → Int32 → Prop} (h_post : ∀ u0 u1, post u0 u1 → post' u0 u1) (h_K21 : ∀ u0 u1 u2 u3 u4 u5, K21 u0 u1 u2 u3 u4 u5 → K21' u0 u1 u2 u3 u4 u5) : BX8_worksOut_115 ln post K21 S x0 x1 x2 x3 x4 t0 t1 t2 → BX8_worksOut_115 ln post' K21' S x0 x1 x2 x3 x4 t0 t1 t2 := by
  unfold BX8_worksOut_115
  repeat' (first | with_reducible exact id | with_reducible exact h_post _ _ | with_reducible exact h_K21 _ _ _ _ _ _ | with_reducible refine m_as (fun _ => ?_) | with_reducible refine mm_BX8_worksOut_149 (fun _ _ => ?_) (fun _ _ _ _ _ _ => ?_))
theorem mm_BX8_worksOut_78 {ln : Nat → Nat} {S : HC} {x0 : Nat} {x1 : Int32} {x2 : Int32} {x3 : Int32} {x4 : Int32} {t0 : Nat} {t1 : Int32} {t2 : Int32} {post post' : Int32 → HC → Prop} {K21 K21' : HC → Nat → Int32 → Int32 → Int32 → Int32 → Prop} (h_post : ∀ u0 u1, post u0 u1 → post' u0 u1) (h_K21 : ∀ u0 u1 u2 u3 u4 u5, K21 u0 u1 u2 u3 u4 u5 → K21' u0 u1 u2 u3 u4 u5) : BX8_worksOut_78 ln post K21 S x0 x1 x2 x3 x4 t0 t1 t2 → BX8_worksOut_78 ln post' K21' S x0 x1 x2 x3 x4 t0 t1 t2 := by
  unfold BX8_worksOut_78
  repeat' (first | with_reducible exact id | with_reducible exact h_post _ _ | with_reducible exact h_K21 _ _ _ _ _ _ | with_reducible refine m_lt (fun _ => ?_) | with_reducible refine m_as (fun _ => ?_) | with_reducible refine mm_BX8_worksOut_149 (fun _ _ => ?_) (fun _ _ _ _ _ _ => ?_))
theorem mm_LX8_worksOut_21 {ln : Nat → Nat} {post post' : Int32 → HC → Prop} (h_post : ∀ u0 u1, post u0 u1 → post' u0 u1) : ∀ n v0 v1 v2 v3 v4 v5, LX8_worksOut_21 ln post n v0 v1 v2 v3 v4 v5 → LX8_worksOut_21 ln post' n v0 v1 v2 v3 v4 v5 := by
  intro n
  induction n with
  | zero => intros; assumption
  | succ n ih =>
    intro v0 v1 v2 v3 v4 v5
    rw [LX8_worksOut_21, LX8_worksOut_21]
    dsimp only
    repeat' (first | with_reducible exact id | with_reducible exact h_post _ _ | with_reducible exact ih _ _ _ _ _ _ | with_reducible refine m_lt (fun _ => ?_) | with_reducible refine m_dn (fun _ => ?_) | with_reducible refine m_al (fun _ => ?_) | with_reducible refine m_as (fun _ => ?_) | with_reducible refine m_ite ?_ ?_ | with_reducible refine mm_BX8_worksOut_115 (fun _ _ => ?_) (fun _ _ _ _ _ _ => ?_) | with_reducible refine mm_wpX8_two (fun _ _ => ?_) | with_reducible refine mm_BX8_worksOut_149 (fun _ _ => ?_) (fun _ _ _ _ _ _ => ?_) | with_reducible refine mm_BX8_worksOut_78 (fun _ _ => ?_) (fun _ _ _ _ _ _ => ?_))
theorem mm_wpX8_worksOut {ln : Nat → Nat} {S : HC} {a0 : Nat} {a1 : Int32} {post post' : Int32 → HC → Prop} (h_post : ∀ u0 u1, post u0 u1 → post' u0 u1) : wpX8_worksOut ln S a0 a1 post → wpX8_worksOut ln S a0 a1 post' := by
  unfold wpX8_worksOut
  repeat' (first | with_reducible exact id | with_reducible exact h_post _ _ | with_reducible refine m_lt (fun _ => ?_) | with_reducible refine m_dn (fun _ => ?_) | with_reducible refine m_al (fun _ => ?_) | with_reducible refine m_ne ?_ | with_reducible refine m_ex (fun _ => ?_) | with_reducible refine mm_LX8_worksOut_21 (fun _ _ => ?_) _ _ _ _ _ _ _)
theorem mm_wpX8_joined {ln : Nat → Nat} {S : HC} {a0 : Nat} {a1 : Int32} {a2 : Int32} {a3 : Int32} {post post' : Int32 → HC → Prop} (h_post : ∀ u0 u1, post u0 u1 → post' u0 u1) : wpX8_joined ln S a0 a1 a2 a3 post → wpX8_joined ln S a0 a1 a2 a3 post' := by
  unfold wpX8_joined
  repeat' (first | with_reducible exact id | with_reducible exact h_post _ _ | with_reducible refine m_lt (fun _ => ?_) | with_reducible refine m_dn (fun _ => ?_) | with_reducible refine m_as (fun _ => ?_) | with_reducible refine m_ne ?_ | with_reducible refine m_ite ?_ ?_ | with_reducible refine mm_wpX8_counts (fun _ _ => ?_) | with_reducible refine mm_wpX8_worksOut (fun _ _ => ?_) | with_reducible refine mm_wpX8_within (fun _ _ => ?_))
theorem mm_BX8_childOf_44 {ln : Nat → Nat} {S : HC} {x3 : Int32} {t0 : Nat} {t1 : Int32} {t2 : Int32} {post post' : Int32 → HC → Prop} (h_post : ∀ u0 u1, post u0 u1 → post' u0 u1) : BX8_childOf_44 ln post S x3 t0 t1 t2 → BX8_childOf_44 ln post' S x3 t0 t1 t2 := by
  unfold BX8_childOf_44
  repeat' (first | with_reducible exact id | with_reducible exact h_post _ _ | with_reducible refine mm_wpX8_joined (fun _ _ => ?_))
theorem mm_BX8_childOf_42 {ln : Nat → Nat} {S : HC} {x3 : Int32} {x4 : Int32} {t0 : Nat} {t1 : Int32} {post post' : Int32 → HC → Prop} (h_post : ∀ u0 u1, post u0 u1 → post' u0 u1) : BX8_childOf_42 ln post S x3 x4 t0 t1 → BX8_childOf_42 ln post' S x3 x4 t0 t1 := by
  unfold BX8_childOf_42
  repeat' (first | with_reducible exact id | with_reducible exact h_post _ _ | with_reducible refine mm_BX8_childOf_44 (fun _ _ => ?_))
theorem mm_wpX8_childOf {ln : Nat → Nat} {S : HC} {a0 : Nat} {a1 : Int32} {a2 : Int32} {a3 : Int32} {post post' : Int32 → HC → Prop} (h_post : ∀ u0 u1, post u0 u1 → post' u0 u1) : wpX8_childOf ln S a0 a1 a2 a3 post → wpX8_childOf ln S a0 a1 a2 a3 post' := by
  unfold wpX8_childOf
  repeat' (first | with_reducible exact id | with_reducible exact h_post _ _ | with_reducible refine m_lt (fun _ => ?_) | with_reducible refine m_dn (fun _ => ?_) | with_reducible refine m_al (fun _ => ?_) | with_reducible refine m_ite ?_ ?_ | with_reducible refine mm_BX8_childOf_42 (fun _ _ => ?_) | with_reducible refine mm_wpX8_isHeiress (fun _ _ => ?_) | with_reducible refine mm_BX8_childOf_44 (fun _ _ => ?_))
theorem mm_BX8_worksPart_75 {ln : Nat → Nat} {S : HC} {x0 : Nat} {x1 : Int32} {x2 : Int32} {x3 : Int32} {x5 : Int32} {x6 : Int32} {t0 : Int32} {post post' : Int32 → HC → Prop} (h_post : ∀ u0 u1, post u0 u1 → post' u0 u1) : BX8_worksPart_75 ln post S x0 x1 x2 x3 x5 x6 t0 → BX8_worksPart_75 ln post' S x0 x1 x2 x3 x5 x6 t0 := by
  unfold BX8_worksPart_75
  repeat' (first | with_reducible exact id | with_reducible exact h_post _ _ | with_reducible refine m_lt (fun _ => ?_) | with_reducible refine m_dn (fun _ => ?_) | with_reducible refine m_al (fun _ => ?_) | with_reducible refine m_ne ?_ | with_reducible refine m_ite ?_ ?_ | with_reducible refine mm_wpX8_of (fun _ _ => ?_))
theorem mm_BX8_worksPart_59 {ln : Nat → Nat} {S : HC} {x0 : Nat} {x1 : Int32} {x2 : Int32} {x3 : Int32} {x5 : Int32} {t0 : Int32} {post post' : Int32 → HC → Prop} (h_post : ∀ u0 u1, post u0 u1 → post' u0 u1) : BX8_worksPart_59 ln post S x0 x1 x2 x3 x5 t0 → BX8_worksPart_59 ln post' S x0 x1 x2 x3 x5 t0 := by
  unfold BX8_worksPart_59
  repeat' (first | with_reducible exact id | with_reducible exact h_post _ _ | with_reducible refine m_lt (fun _ => ?_) | with_reducible refine m_ite ?_ ?_ | with_reducible refine mm_BX8_worksPart_75 (fun _ _ => ?_))
theorem mm_BX8_worksPart_15 {ln : Nat → Nat} {S : HC} {x0 : Nat} {x1 : Int32} {x2 : Int32} {t0 : Int32} {post post' : Int32 → HC → Prop} (h_post : ∀ u0 u1, post u0 u1 → post' u0 u1) : BX8_worksPart_15 ln post S x0 x1 x2 t0 → BX8_worksPart_15 ln post' S x0 x1 x2 t0 := by
  unfold BX8_worksPart_15
  repeat' (first | with_reducible exact id | with_reducible exact h_post _ _ | with_reducible refine m_ite ?_ ?_ | with_reducible refine mm_wpX8_of (fun _ _ => ?_) | with_reducible refine mm_wpX8_childOf (fun _ _ => ?_) | with_reducible refine mm_BX8_worksPart_59 (fun _ _ => ?_))
theorem mm_wpX8_worksPart {ln : Nat → Nat} {S : HC} {a0 : Nat} {a1 : Int32} {a2 : Int32} {post post' : Int32 → HC → Prop} (h_post : ∀ u0 u1, post u0 u1 → post' u0 u1) : wpX8_worksPart ln S a0 a1 a2 post → wpX8_worksPart ln S a0 a1 a2 post' := by
  unfold wpX8_worksPart
  repeat' (first | with_reducible exact id | with_reducible exact h_post _ _ | with_reducible refine m_ite ?_ ?_ | with_reducible refine mm_wpX8_of (fun _ _ => ?_) | with_reducible refine mm_BX8_worksPart_15 (fun _ _ => ?_))
theorem mm_LX8_worksOf_2 {ln : Nat → Nat} {post post' : HC → Prop} (h_post : ∀ u0, post u0 → post' u0) : ∀ n v0 v1 v2 v3, LX8_worksOf_2 ln post n v0 v1 v2 v3 → LX8_worksOf_2 ln post' n v0 v1 v2 v3 := by
  intro n
  induction n with
  | zero => intros; assumption
  | succ n ih =>
    intro v0 v1 v2 v3
    rw [LX8_worksOf_2, LX8_worksOf_2]
    dsimp only
    repeat' (first | with_reducible exact id | with_reducible exact h_post _ | with_reducible exact ih _ _ _ _ | with_reducible refine m_lt (fun _ => ?_) | with_reducible refine m_dn (fun _ => ?_) | with_reducible refine m_al (fun _ => ?_) | with_reducible refine m_as (fun _ => ?_) | with_reducible refine m_ite ?_ ?_ | with_reducible refine mm_wpX8_worksPart (fun _ _ => ?_))
theorem mm_wpX8_worksOf {ln : Nat → Nat} {S : HC} {a0 : Nat} {a1 : Int32} {post post' : HC → Prop} (h_post : ∀ u0, post u0 → post' u0) : wpX8_worksOf ln S a0 a1 post → wpX8_worksOf ln S a0 a1 post' := by
  unfold wpX8_worksOf
  repeat' (first | with_reducible exact id | with_reducible exact h_post _ | with_reducible refine m_ex (fun _ => ?_) | with_reducible refine mm_LX8_worksOf_2 (fun _ => ?_) _ _ _ _ _)
theorem mm_LX8_worksAll_2 {ln : Nat → Nat} {post post' : HC → Prop} (h_post : ∀ u0, post u0 → post' u0) : ∀ n v0 v1 v2, LX8_worksAll_2 ln post n v0 v1 v2 → LX8_worksAll_2 ln post' n v0 v1 v2 := by
  intro n
  induction n with
  | zero => intros; assumption
  | succ n ih =>
    intro v0 v1 v2
    rw [LX8_worksAll_2, LX8_worksAll_2]
    dsimp only
    repeat' (first | with_reducible exact id | with_reducible exact h_post _ | with_reducible exact ih _ _ _ | with_reducible refine m_lt (fun _ => ?_) | with_reducible refine m_ite ?_ ?_ | with_reducible refine mm_wpX8_worksOf (fun _ => ?_))
theorem mm_wpX8_worksAll {ln : Nat → Nat} {S : HC} {a0 : Nat} {post post' : HC → Prop} (h_post : ∀ u0, post u0 → post' u0) : wpX8_worksAll ln S a0 post → wpX8_worksAll ln S a0 post' := by
  unfold wpX8_worksAll
  repeat' (first | with_reducible exact id | with_reducible exact h_post _ | with_reducible refine m_ex (fun _ => ?_) | with_reducible refine mm_LX8_worksAll_2 (fun _ => ?_) _ _ _ _)
theorem mm_wpX8_borne {ln : Nat → Nat} {S : HC} {a0 : Nat} {a1 : Int32} {a2 : Int32} {post post' : Int32 → HC → Prop} (h_post : ∀ u0 u1, post u0 u1 → post' u0 u1) : wpX8_borne ln S a0 a1 a2 post → wpX8_borne ln S a0 a1 a2 post' := by
  unfold wpX8_borne
  repeat' (first | with_reducible exact id | with_reducible exact h_post _ _ | with_reducible refine m_lt (fun _ => ?_) | with_reducible refine m_dn (fun _ => ?_) | with_reducible refine m_al (fun _ => ?_) | with_reducible refine m_ite ?_ ?_ | with_reducible refine mm_wpX8_of (fun _ _ => ?_))
theorem mm_BX8_bears_15 {ln : Nat → Nat} {S : HC} {post post' : Int32 → HC → Prop} (h_post : ∀ u0 u1, post u0 u1 → post' u0 u1) : BX8_bears_15 ln post S → BX8_bears_15 ln post' S := by
  unfold BX8_bears_15
  repeat' (first | with_reducible exact id | with_reducible exact h_post _ _)
theorem mm_wpX8_bears {ln : Nat → Nat} {S : HC} {a0 : Nat} {a1 : Int32} {a2 : Int32} {post post' : Int32 → HC → Prop} (h_post : ∀ u0 u1, post u0 u1 → post' u0 u1) : wpX8_bears ln S a0 a1 a2 post → wpX8_bears ln S a0 a1 a2 post' := by
  unfold wpX8_bears
  repeat' (first | with_reducible exact id | with_reducible exact h_post _ _ | with_reducible refine m_ite ?_ ?_ | with_reducible refine mm_wpX8_isOne (fun _ _ => ?_) | with_reducible refine mm_BX8_bears_15 (fun _ _ => ?_) | with_reducible refine mm_wpX8_isCharge (fun _ _ => ?_) | with_reducible refine mm_wpX8_worksOf (fun _ => ?_) | with_reducible refine mm_wpX8_borne (fun _ _ => ?_))
theorem mm_BX8_isUnder_33 {ln : Nat → Nat} {S : HC} {post post' : Int32 → HC → Prop} (h_post : ∀ u0 u1, post u0 u1 → post' u0 u1) : BX8_isUnder_33 ln post S → BX8_isUnder_33 ln post' S := by
  unfold BX8_isUnder_33
  repeat' (first | with_reducible exact id | with_reducible exact h_post _ _ | with_reducible refine m_rb ?_)
theorem mm_BX8_isUnder_29 {ln : Nat → Nat} {S : HC} {post post' : Int32 → HC → Prop} (h_post : ∀ u0 u1, post u0 u1 → post' u0 u1) : BX8_isUnder_29 ln post S → BX8_isUnder_29 ln post' S := by
  unfold BX8_isUnder_29
  repeat' (first | with_reducible exact id | with_reducible exact h_post _ _ | with_reducible refine m_rb ?_)
theorem mm_BX8_isUnder_19 {ln : Nat → Nat} {S : HC} {x0 : Int32} {x1 : Int32} {post post' : Int32 → HC → Prop} (h_post : ∀ u0 u1, post u0 u1 → post' u0 u1) : BX8_isUnder_19 ln post S x0 x1 → BX8_isUnder_19 ln post' S x0 x1 := by
  unfold BX8_isUnder_19
  repeat' (first | with_reducible exact id | with_reducible exact h_post _ _ | with_reducible refine m_ite ?_ ?_ | with_reducible refine mm_BX8_isUnder_29 (fun _ _ => ?_) | with_reducible refine mm_BX8_isUnder_33 (fun _ _ => ?_))
theorem mm_wpX8_isUnder {ln : Nat → Nat} {S : HC} {a0 : Int32} {a1 : Int32} {post post' : Int32 → HC → Prop} (h_post : ∀ u0 u1, post u0 u1 → post' u0 u1) : wpX8_isUnder ln S a0 a1 post → wpX8_isUnder ln S a0 a1 post' := by
  unfold wpX8_isUnder
  repeat' (first | with_reducible exact id | with_reducible exact h_post _ _ | with_reducible refine m_ite ?_ ?_ | with_reducible refine mm_BX8_isUnder_29 (fun _ _ => ?_) | with_reducible refine mm_BX8_isUnder_19 (fun _ _ => ?_))
theorem mm_BX8_as_17 {ln : Nat → Nat} {S : HC} {post post' : Int32 → HC → Prop} (h_post : ∀ u0 u1, post u0 u1 → post' u0 u1) : BX8_as_17 ln post S → BX8_as_17 ln post' S := by
  unfold BX8_as_17
  repeat' (first | with_reducible exact id | with_reducible exact h_post _ _)
theorem mm_wpX8_as {ln : Nat → Nat} {S : HC} {a0 : Nat} {a1 : Int32} {a2 : Int32} {post post' : Int32 → HC → Prop} (h_post : ∀ u0 u1, post u0 u1 → post' u0 u1) : wpX8_as ln S a0 a1 a2 post → wpX8_as ln S a0 a1 a2 post' := by
  unfold wpX8_as
  repeat' (first | with_reducible exact id | with_reducible exact h_post _ _ | with_reducible refine m_ite ?_ ?_ | with_reducible refine mm_wpX8_isOne (fun _ _ => ?_) | with_reducible refine mm_BX8_as_17 (fun _ _ => ?_) | with_reducible refine mm_wpX8_in (fun _ _ => ?_) | with_reducible refine mm_wpX8_of (fun _ _ => ?_) | with_reducible refine mm_wpX8_isUnder (fun _ _ => ?_))
theorem mm_BX8_turns_31 {ln : Nat → Nat} {S : HC} {post post' : Int32 → HC → Prop} (h_post : ∀ u0 u1, post u0 u1 → post' u0 u1) : BX8_turns_31 ln post S → BX8_turns_31 ln post' S := by
  unfold BX8_turns_31
  repeat' (first | with_reducible exact id | with_reducible exact h_post _ _)
theorem mm_wpX8_turns {ln : Nat → Nat} {S : HC} {a0 : Nat} {a1 : Int32} {a2 : Int32} {post post' : Int32 → HC → Prop} (h_post : ∀ u0 u1, post u0 u1 → post' u0 u1) : wpX8_turns ln S a0 a1 a2 post → wpX8_turns ln S a0 a1 a2 post' := by
  unfold wpX8_turns
  repeat' (first | with_reducible exact id | with_reducible exact h_post _ _ | with_reducible refine m_lt (fun _ => ?_) | with_reducible refine m_ite ?_ ?_ | with_reducible refine mm_wpX8_isOne (fun _ _ => ?_) | with_reducible refine mm_BX8_turns_31 (fun _ _ => ?_) | with_reducible refine mm_wpX8_in (fun _ _ => ?_) | with_reducible refine mm_wpX8_becomes (fun _ _ => ?_))
theorem mm_BX8_set_54 {ln : Nat → Nat} {S : HC} {post post' : Int32 → HC → Prop} (h_post : ∀ u0 u1, post u0 u1 → post' u0 u1) : BX8_set_54 ln post S → BX8_set_54 ln post' S := by
  unfold BX8_set_54
  repeat' (first | with_reducible exact id | with_reducible exact h_post _ _)
theorem mm_BX8_set_32 {ln : Nat → Nat} {S : HC} {x0 : Nat} {x1 : Int32} {x2 : Int32} {x3 : Int32} {t0 : Int32} {t1 : Int32} {t2 : Int32} {post post' : Int32 → HC → Prop} (h_post : ∀ u0 u1, post u0 u1 → post' u0 u1) : BX8_set_32 ln post S x0 x1 x2 x3 t0 t1 t2 → BX8_set_32 ln post' S x0 x1 x2 x3 t0 t1 t2 := by
  unfold BX8_set_32
  repeat' (first | with_reducible exact id | with_reducible exact h_post _ _ | with_reducible refine m_lt (fun _ => ?_) | with_reducible refine m_ite ?_ ?_ | with_reducible refine mm_wpX8_in (fun _ _ => ?_) | with_reducible refine mm_BX8_set_54 (fun _ _ => ?_) | with_reducible refine mm_wpX8_becomes (fun _ _ => ?_))
theorem mm_wpX8_set {ln : Nat → Nat} {S : HC} {a0 : Nat} {a1 : Int32} {a2 : Int32} {a3 : Int32} {post post' : Int32 → HC → Prop} (h_post : ∀ u0 u1, post u0 u1 → post' u0 u1) : wpX8_set ln S a0 a1 a2 a3 post → wpX8_set ln S a0 a1 a2 a3 post' := by
  unfold wpX8_set
  repeat' (first | with_reducible exact id | with_reducible exact h_post _ _ | with_reducible refine m_ite ?_ ?_ | with_reducible refine mm_wpX8_isOne (fun _ _ => ?_) | with_reducible refine mm_BX8_set_54 (fun _ _ => ?_) | with_reducible refine mm_wpX8_in (fun _ _ => ?_) | with_reducible refine mm_BX8_set_32 (fun _ _ => ?_))
theorem mm_wpX8_fertile {ln : Nat → Nat} {S : HC} {a0 : Nat} {a1 : Int32} {post post' : Int32 → HC → Prop} (h_post : ∀ u0 u1, post u0 u1 → post' u0 u1) : wpX8_fertile ln S a0 a1 post → wpX8_fertile ln S a0 a1 post' := by
  unfold wpX8_fertile
  repeat' (first | with_reducible exact id | with_reducible exact h_post _ _ | with_reducible refine m_ite ?_ ?_ | with_reducible refine mm_wpX8_in (fun _ _ => ?_) | with_reducible refine mm_wpX8_becomes (fun _ _ => ?_))
theorem mm_wpX8_draw {ln : Nat → Nat} {S : HC} {a0 : Nat} {post post' : Int32 → HC → Prop} (h_post : ∀ u0 u1, post u0 u1 → post' u0 u1) : wpX8_draw ln S a0 post → wpX8_draw ln S a0 post' := by
  unfold wpX8_draw
  repeat' (first | with_reducible exact id | with_reducible exact h_post _ _ | with_reducible refine m_lt (fun _ => ?_) | with_reducible refine m_dn (fun _ => ?_) | with_reducible refine m_al (fun _ => ?_) | with_reducible refine m_as (fun _ => ?_))
theorem mm_BX8_deal_71 {ln : Nat → Nat} {S : HC} {x2 : Int32} {post post' : Int32 → HC → Prop} (h_post : ∀ u0 u1, post u0 u1 → post' u0 u1) : BX8_deal_71 ln post S x2 → BX8_deal_71 ln post' S x2 := by
  unfold BX8_deal_71
  repeat' (first | with_reducible exact id | with_reducible exact h_post _ _)
theorem mm_LX8_deal_15 {ln : Nat → Nat} {post post' : Int32 → HC → Prop} (h_post : ∀ u0 u1, post u0 u1 → post' u0 u1) : ∀ n v0 v1 v2 v3, LX8_deal_15 ln post n v0 v1 v2 v3 → LX8_deal_15 ln post' n v0 v1 v2 v3 := by
  intro n
  induction n with
  | zero => intros; assumption
  | succ n ih =>
    intro v0 v1 v2 v3
    rw [LX8_deal_15, LX8_deal_15]
    dsimp only
    repeat' (first | with_reducible exact id | with_reducible exact h_post _ _ | with_reducible exact ih _ _ _ _ | with_reducible refine m_lt (fun _ => ?_) | with_reducible refine m_dn (fun _ => ?_) | with_reducible refine m_al (fun _ => ?_) | with_reducible refine m_ne ?_ | with_reducible refine m_ite ?_ ?_ | with_reducible refine mm_BX8_deal_71 (fun _ _ => ?_) | with_reducible refine mm_wpX8_draw (fun _ _ => ?_) | with_reducible refine mm_wpX8_comes (fun _ _ => ?_))
theorem mm_wpX8_deal {ln : Nat → Nat} {S : HC} {a0 : Nat} {a1 : Int32} {post post' : Int32 → HC → Prop} (h_post : ∀ u0 u1, post u0 u1 → post' u0 u1) : wpX8_deal ln S a0 a1 post → wpX8_deal ln S a0 a1 post' := by
  unfold wpX8_deal
  repeat' (first | with_reducible exact id | with_reducible exact h_post _ _ | with_reducible refine m_ite ?_ ?_ | with_reducible refine m_ex (fun _ => ?_) | with_reducible refine mm_wpX8_in (fun _ _ => ?_) | with_reducible refine mm_LX8_deal_15 (fun _ _ => ?_) _ _ _ _ _)
theorem mm_wpX8_seed {ln : Nat → Nat} {S : HC} {a0 : Nat} {a1 : Int32} {post post' : Int32 → HC → Prop} (h_post : ∀ u0 u1, post u0 u1 → post' u0 u1) : wpX8_seed ln S a0 a1 post → wpX8_seed ln S a0 a1 post' := by
  unfold wpX8_seed
  repeat' (first | with_reducible exact id | with_reducible exact h_post _ _ | with_reducible refine mm_wpX8_becomes (fun _ _ => ?_))
theorem mm_BX8_manyOf_30 {ln : Nat → Nat} {S : HC} {x0 : Nat} {x1 : Int32} {x3 : Int32} {t0 : Int32} {t1 : Int32} {post post' : Int32 → HC → Prop} {K4 K4' : HC → Nat → Int32 → Int32 → Int32 → Prop} (h_post : ∀ u0 u1, post u0 u1 → post' u0 u1) (h_K4 : ∀ u0 u1 u2 u3 u4, K4 u0 u1 u2 u3 u4 → K4' u0 u1 u2 u3 u4) : BX8_manyOf_30 ln post K4 S x0 x1 x3 t0 t1 → BX8_manyOf_30 ln post' K4' S x0 x1 x3 t0 t1 := by
  unfold BX8_manyOf_30
  repeat' (first | with_reducible exact id | with_reducible exact h_post _ _ | with_reducible exact h_K4 _ _ _ _ _ | with_reducible refine m_lt (fun _ => ?_))
theorem mm_LX8_manyOf_4 {ln : Nat → Nat} {post post' : Int32 → HC → Prop} (h_post : ∀ u0 u1, post u0 u1 → post' u0 u1) : ∀ n v0 v1 v2 v3 v4, LX8_manyOf_4 ln post n v0 v1 v2 v3 v4 → LX8_manyOf_4 ln post' n v0 v1 v2 v3 v4 := by
  intro n
  induction n with
  | zero => intros; assumption
  | succ n ih =>
    intro v0 v1 v2 v3 v4
    rw [LX8_manyOf_4, LX8_manyOf_4]
    dsimp only
    repeat' (first | with_reducible exact id | with_reducible exact h_post _ _ | with_reducible exact ih _ _ _ _ _ | with_reducible refine m_dn (fun _ => ?_) | with_reducible refine m_al (fun _ => ?_) | with_reducible refine m_ite ?_ ?_ | with_reducible refine mm_wpX8_of (fun _ _ => ?_) | with_reducible refine mm_BX8_manyOf_30 (fun _ _ => ?_) (fun _ _ _ _ _ => ?_))
theorem mm_wpX8_manyOf {ln : Nat → Nat} {S : HC} {a0 : Nat} {a1 : Int32} {post post' : Int32 → HC → Prop} (h_post : ∀ u0 u1, post u0 u1 → post' u0 u1) : wpX8_manyOf ln S a0 a1 post → wpX8_manyOf ln S a0 a1 post' := by
  unfold wpX8_manyOf
  repeat' (first | with_reducible exact id | with_reducible exact h_post _ _ | with_reducible refine m_ex (fun _ => ?_) | with_reducible refine mm_LX8_manyOf_4 (fun _ _ => ?_) _ _ _ _ _ _)
theorem mm_BX8_numberOf_37 {ln : Nat → Nat} {S : HC} {x0 : Nat} {x1 : Int32} {x4 : Int32} {t0 : Int32} {t1 : Int32} {post post' : Int32 → HC → Prop} {K5 K5' : HC → Nat → Int32 → Int32 → Int32 → Prop} (h_post : ∀ u0 u1, post u0 u1 → post' u0 u1) (h_K5 : ∀ u0 u1 u2 u3 u4, K5 u0 u1 u2 u3 u4 → K5' u0 u1 u2 u3 u4) : BX8_numberOf_37 ln post K5 S x0 x1 x4 t0 t1 → BX8_numberOf_37 ln post' K5' S x0 x1 x4 t0 t1 := by
  unfold BX8_numberOf_37
  repeat' (first | with_reducible exact id | with_reducible exact h_post _ _ | with_reducible exact h_K5 _ _ _ _ _ | with_reducible refine m_lt (fun _ => ?_))
theorem mm_BX8_numberOf_20 {ln : Nat → Nat} {S : HC} {x0 : Nat} {x1 : Int32} {x3 : Int32} {x4 : Int32} {post post' : Int32 → HC → Prop} {K5 K5' : HC → Nat → Int32 → Int32 → Int32 → Prop} (h_post : ∀ u0 u1, post u0 u1 → post' u0 u1) (h_K5 : ∀ u0 u1 u2 u3 u4, K5 u0 u1 u2 u3 u4 → K5' u0 u1 u2 u3 u4) : BX8_numberOf_20 ln post K5 S x0 x1 x3 x4 → BX8_numberOf_20 ln post' K5' S x0 x1 x3 x4 := by
  unfold BX8_numberOf_20
  repeat' (first | with_reducible exact id | with_reducible exact h_post _ _ | with_reducible exact h_K5 _ _ _ _ _ | with_reducible refine m_ite ?_ ?_ | with_reducible refine mm_wpX8_of (fun _ _ => ?_) | with_reducible refine mm_BX8_numberOf_37 (fun _ _ => ?_) (fun _ _ _ _ _ => ?_))
theorem mm_LX8_numberOf_5 {ln : Nat → Nat} {post post' : Int32 → HC → Prop} (h_post : ∀ u0 u1, post u0 u1 → post' u0 u1) : ∀ n v0 v1 v2 v3 v4, LX8_numberOf_5 ln post n v0 v1 v2 v3 v4 → LX8_numberOf_5 ln post' n v0 v1 v2 v3 v4 := by
  intro n
  induction n with
  | zero => intros; assumption
  | succ n ih =>
    intro v0 v1 v2 v3 v4
    rw [LX8_numberOf_5, LX8_numberOf_5]
    dsimp only
    repeat' (first | with_reducible exact id | with_reducible exact h_post _ _ | with_reducible exact ih _ _ _ _ _ | with_reducible refine m_ite ?_ ?_ | with_reducible refine mm_BX8_numberOf_20 (fun _ _ => ?_) (fun _ _ _ _ _ => ?_) | with_reducible refine mm_wpX8_of (fun _ _ => ?_))
theorem mm_wpX8_numberOf {ln : Nat → Nat} {S : HC} {a0 : Nat} {a1 : Int32} {a2 : Int32} {post post' : Int32 → HC → Prop} (h_post : ∀ u0 u1, post u0 u1 → post' u0 u1) : wpX8_numberOf ln S a0 a1 a2 post → wpX8_numberOf ln S a0 a1 a2 post' := by
  unfold wpX8_numberOf
  repeat' (first | with_reducible exact id | with_reducible exact h_post _ _ | with_reducible refine m_ex (fun _ => ?_) | with_reducible refine mm_LX8_numberOf_5 (fun _ _ => ?_) _ _ _ _ _ _)
theorem mm_BX8_year_121 {ln : Nat → Nat} {S : HC} {x0 : Nat} {post post' : HC → Prop} (h_post : ∀ u0, post u0 → post' u0) : BX8_year_121 ln post S x0 → BX8_year_121 ln post' S x0 := by
  unfold BX8_year_121
  repeat' (first | with_reducible exact id | with_reducible exact h_post _ | with_reducible refine m_lt (fun _ => ?_) | with_reducible refine m_dn (fun _ => ?_) | with_reducible refine m_al (fun _ => ?_) | with_reducible refine m_as (fun _ => ?_))
theorem mm_BX8_year_21 {ln : Nat → Nat} {S : HC} {x0 : Nat} {t0 : Int32} {post post' : HC → Prop} (h_post : ∀ u0, post u0 → post' u0) : BX8_year_21 ln post S x0 t0 → BX8_year_21 ln post' S x0 t0 := by
  unfold BX8_year_21
  repeat' (first | with_reducible exact id | with_reducible exact h_post _ | with_reducible refine m_lt (fun _ => ?_) | with_reducible refine m_dn (fun _ => ?_) | with_reducible refine m_al (fun _ => ?_) | with_reducible refine m_ne ?_ | with_reducible refine m_ite ?_ ?_ | with_reducible refine mm_wpX8_manyOf (fun _ _ => ?_) | with_reducible refine mm_BX8_year_121 (fun _ => ?_) | with_reducible refine mm_wpX8_draw (fun _ _ => ?_) | with_reducible refine mm_wpX8_numberOf (fun _ _ => ?_) | with_reducible refine mm_wpX8_comes (fun _ _ => ?_))
theorem mm_wpX8_year {ln : Nat → Nat} {S : HC} {a0 : Nat} {post post' : HC → Prop} (h_post : ∀ u0, post u0 → post' u0) : wpX8_year ln S a0 post → wpX8_year ln S a0 post' := by
  unfold wpX8_year
  repeat' (first | with_reducible exact id | with_reducible exact h_post _ | with_reducible refine m_lt (fun _ => ?_) | with_reducible refine m_dn (fun _ => ?_) | with_reducible refine m_al (fun _ => ?_) | with_reducible refine m_ne ?_ | with_reducible refine m_ite ?_ ?_ | with_reducible refine mm_wpX8_draw (fun _ _ => ?_) | with_reducible refine mm_BX8_year_21 (fun _ => ?_))
theorem mm_LX8_goesOn_2 {ln : Nat → Nat} {post post' : HC → Prop} (h_post : ∀ u0, post u0 → post' u0) : ∀ n v0 v1 v2 v3, LX8_goesOn_2 ln post n v0 v1 v2 v3 → LX8_goesOn_2 ln post' n v0 v1 v2 v3 := by
  intro n
  induction n with
  | zero => intros; assumption
  | succ n ih =>
    intro v0 v1 v2 v3
    rw [LX8_goesOn_2, LX8_goesOn_2]
    dsimp only
    repeat' (first | with_reducible exact id | with_reducible exact h_post _ | with_reducible exact ih _ _ _ _ | with_reducible refine m_lt (fun _ => ?_) | with_reducible refine m_ite ?_ ?_ | with_reducible refine mm_wpX8_year (fun _ => ?_))
theorem mm_wpX8_goesOn {ln : Nat → Nat} {S : HC} {a0 : Nat} {a1 : Int32} {post post' : HC → Prop} (h_post : ∀ u0, post u0 → post' u0) : wpX8_goesOn ln S a0 a1 post → wpX8_goesOn ln S a0 a1 post' := by
  unfold wpX8_goesOn
  repeat' (first | with_reducible exact id | with_reducible exact h_post _ | with_reducible refine m_ex (fun _ => ?_) | with_reducible refine mm_LX8_goesOn_2 (fun _ => ?_) _ _ _ _ _)
theorem mm_wpX8_years {ln : Nat → Nat} {S : HC} {a0 : Nat} {a1 : Int32} {post post' : Int32 → HC → Prop} (h_post : ∀ u0 u1, post u0 u1 → post' u0 u1) : wpX8_years ln S a0 a1 post → wpX8_years ln S a0 a1 post' := by
  unfold wpX8_years
  repeat' (first | with_reducible exact id | with_reducible exact h_post _ _ | with_reducible refine m_lt (fun _ => ?_) | with_reducible refine m_dn (fun _ => ?_) | with_reducible refine m_al (fun _ => ?_) | with_reducible refine m_ite ?_ ?_ | with_reducible refine mm_wpX8_in (fun _ _ => ?_) | with_reducible refine mm_wpX8_within (fun _ _ => ?_) | with_reducible refine mm_wpX8_goesOn (fun _ => ?_))
theorem mm_BX8_areAlike_38 {ln : Nat → Nat} {S : HC} {x0 : Nat} {x1 : Int32} {x2 : Int32} {x4 : Int32} {t0 : Int32} {post post' : Int32 → HC → Prop} {K5 K5' : HC → Nat → Int32 → Int32 → Int32 → Int32 → Prop} (h_post : ∀ u0 u1, post u0 u1 → post' u0 u1) (h_K5 : ∀ u0 u1 u2 u3 u4 u5, K5 u0 u1 u2 u3 u4 u5 → K5' u0 u1 u2 u3 u4 u5) : BX8_areAlike_38 ln post K5 S x0 x1 x2 x4 t0 → BX8_areAlike_38 ln post' K5' S x0 x1 x2 x4 t0 := by
  unfold BX8_areAlike_38
  repeat' (first | with_reducible exact id | with_reducible exact h_post _ _ | with_reducible exact h_K5 _ _ _ _ _ _ | with_reducible refine m_lt (fun _ => ?_))
theorem mm_BX8_areAlike_37 {ln : Nat → Nat} {S : HC} {x0 : Nat} {x1 : Int32} {x2 : Int32} {x4 : Int32} {post post' : Int32 → HC → Prop} {K5 K5' : HC → Nat → Int32 → Int32 → Int32 → Int32 → Prop} (h_post : ∀ u0 u1, post u0 u1 → post' u0 u1) (h_K5 : ∀ u0 u1 u2 u3 u4 u5, K5 u0 u1 u2 u3 u4 u5 → K5' u0 u1 u2 u3 u4 u5) : BX8_areAlike_37 ln post K5 S x0 x1 x2 x4 → BX8_areAlike_37 ln post' K5' S x0 x1 x2 x4 := by
  unfold BX8_areAlike_37
  repeat' (first | with_reducible exact id | with_reducible exact h_post _ _ | with_reducible exact h_K5 _ _ _ _ _ _ | with_reducible refine mm_BX8_areAlike_38 (fun _ _ => ?_) (fun _ _ _ _ _ _ => ?_))
theorem mm_LX8_areAlike_5 {ln : Nat → Nat} {post post' : Int32 → HC → Prop} (h_post : ∀ u0 u1, post u0 u1 → post' u0 u1) : ∀ n v0 v1 v2 v3 v4 v5, LX8_areAlike_5 ln post n v0 v1 v2 v3 v4 v5 → LX8_areAlike_5 ln post' n v0 v1 v2 v3 v4 v5 := by
  intro n
  induction n with
  | zero => intros; assumption
  | succ n ih =>
    intro v0 v1 v2 v3 v4 v5
    rw [LX8_areAlike_5, LX8_areAlike_5]
    dsimp only
    repeat' (first | with_reducible exact id | with_reducible exact h_post _ _ | with_reducible exact ih _ _ _ _ _ _ | with_reducible refine m_rb ?_ | with_reducible refine m_ite ?_ ?_ | with_reducible refine mm_BX8_areAlike_37 (fun _ _ => ?_) (fun _ _ _ _ _ _ => ?_) | with_reducible refine mm_wpX8_borne (fun _ _ => ?_) | with_reducible refine mm_BX8_areAlike_38 (fun _ _ => ?_) (fun _ _ _ _ _ _ => ?_))
theorem mm_wpX8_areAlike {ln : Nat → Nat} {S : HC} {a0 : Nat} {a1 : Int32} {a2 : Int32} {post post' : Int32 → HC → Prop} (h_post : ∀ u0 u1, post u0 u1 → post' u0 u1) : wpX8_areAlike ln S a0 a1 a2 post → wpX8_areAlike ln S a0 a1 a2 post' := by
  unfold wpX8_areAlike
  repeat' (first | with_reducible exact id | with_reducible exact h_post _ _ | with_reducible refine m_ex (fun _ => ?_) | with_reducible refine mm_LX8_areAlike_5 (fun _ _ => ?_) _ _ _ _ _ _ _)
theorem mm_BX8_alike_21 {ln : Nat → Nat} {S : HC} {post post' : Int32 → HC → Prop} (h_post : ∀ u0 u1, post u0 u1 → post' u0 u1) : BX8_alike_21 ln post S → BX8_alike_21 ln post' S := by
  unfold BX8_alike_21
  repeat' (first | with_reducible exact id | with_reducible exact h_post _ _)
theorem mm_wpX8_alike {ln : Nat → Nat} {S : HC} {a0 : Nat} {a1 : Int32} {a2 : Int32} {post post' : Int32 → HC → Prop} (h_post : ∀ u0 u1, post u0 u1 → post' u0 u1) : wpX8_alike ln S a0 a1 a2 post → wpX8_alike ln S a0 a1 a2 post' := by
  unfold wpX8_alike
  repeat' (first | with_reducible exact id | with_reducible exact h_post _ _ | with_reducible refine m_ite ?_ ?_ | with_reducible refine mm_wpX8_isOne (fun _ _ => ?_) | with_reducible refine mm_BX8_alike_21 (fun _ _ => ?_) | with_reducible refine mm_wpX8_worksAll (fun _ => ?_) | with_reducible refine mm_wpX8_areAlike (fun _ _ => ?_))
theorem mm_BX8_clashes_40 {ln : Nat → Nat} {S : HC} {x0 : Nat} {x2 : Int32} {x3 : Int32} {t0 : Int32} {t1 : Int32} {post post' : Int32 → HC → Prop} {K8 K8' : HC → Nat → Int32 → Int32 → Prop} {K20 K20' : HC → Nat → Int32 → Int32 → Int32 → Prop} (h_post : ∀ u0 u1, post u0 u1 → post' u0 u1) (h_K8 : ∀ u0 u1 u2 u3, K8 u0 u1 u2 u3 → K8' u0 u1 u2 u3) (h_K20 : ∀ u0 u1 u2 u3 u4, K20 u0 u1 u2 u3 u4 → K20' u0 u1 u2 u3 u4) : BX8_clashes_40 ln post K8 K20 S x0 x2 x3 t0 t1 → BX8_clashes_40 ln post' K8' K20' S x0 x2 x3 t0 t1 := by
  unfold BX8_clashes_40
  repeat' (first | with_reducible exact id | with_reducible exact h_post _ _ | with_reducible exact h_K8 _ _ _ _ | with_reducible exact h_K20 _ _ _ _ _ | with_reducible refine m_lt (fun _ => ?_))
theorem mm_LX8_clashes_20 {ln : Nat → Nat} {post post' : Int32 → HC → Prop} {K8 K8' : HC → Nat → Int32 → Int32 → Prop} (h_post : ∀ u0 u1, post u0 u1 → post' u0 u1) (h_K8 : ∀ u0 u1 u2 u3, K8 u0 u1 u2 u3 → K8' u0 u1 u2 u3) : ∀ n v0 v1 v2 v3 v4, LX8_clashes_20 ln post K8 n v0 v1 v2 v3 v4 → LX8_clashes_20 ln post' K8' n v0 v1 v2 v3 v4 := by
  intro n
  induction n with
  | zero => intros; assumption
  | succ n ih =>
    intro v0 v1 v2 v3 v4
    rw [LX8_clashes_20, LX8_clashes_20]
    dsimp only
    repeat' (first | with_reducible exact id | with_reducible exact h_post _ _ | with_reducible exact h_K8 _ _ _ _ | with_reducible exact ih _ _ _ _ _ | with_reducible refine m_lt (fun _ => ?_) | with_reducible refine m_ite ?_ ?_ | with_reducible refine mm_wpX8_areAlike (fun _ _ => ?_) | with_reducible refine mm_BX8_clashes_40 (fun _ _ => ?_) (fun _ _ _ _ => ?_) (fun _ _ _ _ _ => ?_))
theorem mm_LX8_clashes_8 {ln : Nat → Nat} {post post' : Int32 → HC → Prop} (h_post : ∀ u0 u1, post u0 u1 → post' u0 u1) : ∀ n v0 v1 v2 v3, LX8_clashes_8 ln post n v0 v1 v2 v3 → LX8_clashes_8 ln post' n v0 v1 v2 v3 := by
  intro n
  induction n with
  | zero => intros; assumption
  | succ n ih =>
    intro v0 v1 v2 v3
    rw [LX8_clashes_8, LX8_clashes_8]
    dsimp only
    repeat' (first | with_reducible exact id | with_reducible exact h_post _ _ | with_reducible exact ih _ _ _ _ | with_reducible refine m_dn (fun _ => ?_) | with_reducible refine m_al (fun _ => ?_) | with_reducible refine m_ite ?_ ?_ | with_reducible refine m_ex (fun _ => ?_) | with_reducible refine mm_LX8_clashes_20 (fun _ _ => ?_) (fun _ _ _ _ => ?_) _ _ _ _ _ _)
theorem mm_wpX8_clashes {ln : Nat → Nat} {S : HC} {a0 : Nat} {post post' : Int32 → HC → Prop} (h_post : ∀ u0 u1, post u0 u1 → post' u0 u1) : wpX8_clashes ln S a0 post → wpX8_clashes ln S a0 post' := by
  unfold wpX8_clashes
  repeat' (first | with_reducible exact id | with_reducible exact h_post _ _ | with_reducible refine m_ex (fun _ => ?_) | with_reducible refine mm_wpX8_worksAll (fun _ => ?_) | with_reducible refine mm_LX8_clashes_8 (fun _ _ => ?_) _ _ _ _ _)
theorem mm_BX8_land_66 {ln : Nat → Nat} {S : HC} {x0 : Nat} {x3 : Int32} {t0 : Int32} {t1 : Int32} {post post' : Int32 → HC → Prop} {K40 K40' : HC → Nat → Int32 → Int32 → Prop} (h_post : ∀ u0 u1, post u0 u1 → post' u0 u1) (h_K40 : ∀ u0 u1 u2 u3, K40 u0 u1 u2 u3 → K40' u0 u1 u2 u3) : BX8_land_66 ln post K40 S x0 x3 t0 t1 → BX8_land_66 ln post' K40' S x0 x3 t0 t1 := by
  unfold BX8_land_66
  repeat' (first | with_reducible exact id | with_reducible exact h_post _ _ | with_reducible exact h_K40 _ _ _ _ | with_reducible refine m_lt (fun _ => ?_))
theorem mm_LX8_land_40 {ln : Nat → Nat} {post post' : Int32 → HC → Prop} (h_post : ∀ u0 u1, post u0 u1 → post' u0 u1) : ∀ n v0 v1 v2 v3, LX8_land_40 ln post n v0 v1 v2 v3 → LX8_land_40 ln post' n v0 v1 v2 v3 := by
  intro n
  induction n with
  | zero => intros; assumption
  | succ n ih =>
    intro v0 v1 v2 v3
    rw [LX8_land_40, LX8_land_40]
    dsimp only
    repeat' (first | with_reducible exact id | with_reducible exact h_post _ _ | with_reducible exact ih _ _ _ _ | with_reducible refine m_lt (fun _ => ?_) | with_reducible refine m_dn (fun _ => ?_) | with_reducible refine m_al (fun _ => ?_) | with_reducible refine m_ite ?_ ?_ | with_reducible refine mm_wpX8_isHeiress (fun _ _ => ?_) | with_reducible refine mm_BX8_land_66 (fun _ _ => ?_) (fun _ _ _ _ => ?_))
theorem mm_wpX8_land {ln : Nat → Nat} {S : HC} {a0 : Nat} {a1 : Int32} {post post' : Int32 → HC → Prop} (h_post : ∀ u0 u1, post u0 u1 → post' u0 u1) : wpX8_land ln S a0 a1 post → wpX8_land ln S a0 a1 post' := by
  unfold wpX8_land
  repeat' (first | with_reducible exact id | with_reducible exact h_post _ _ | with_reducible refine m_lt (fun _ => ?_) | with_reducible refine m_ite ?_ ?_ | with_reducible refine m_ex (fun _ => ?_) | with_reducible refine mm_wpX8_in (fun _ _ => ?_) | with_reducible refine mm_LX8_land_40 (fun _ _ => ?_) _ _ _ _ _ | with_reducible refine mm_wpX8_clashes (fun _ _ => ?_) | with_reducible refine mm_wpX8_manyOf (fun _ _ => ?_))
theorem mm_BX8_sixteenth_47 {ln : Nat → Nat} {S : HC} {x0 : Nat} {x1 : Int32} {x3 : Int32} {t0 : Int32} {t1 : Int32} {post post' : Int32 → HC → Prop} {K19 K19' : HC → Nat → Int32 → Int32 → Int32 → Prop} (h_post : ∀ u0 u1, post u0 u1 → post' u0 u1) (h_K19 : ∀ u0 u1 u2 u3 u4, K19 u0 u1 u2 u3 u4 → K19' u0 u1 u2 u3 u4) : BX8_sixteenth_47 ln post K19 S x0 x1 x3 t0 t1 → BX8_sixteenth_47 ln post' K19' S x0 x1 x3 t0 t1 := by
  unfold BX8_sixteenth_47
  repeat' (first | with_reducible exact id | with_reducible exact h_post _ _ | with_reducible exact h_K19 _ _ _ _ _ | with_reducible refine m_lt (fun _ => ?_))
theorem mm_LX8_sixteenth_19 {ln : Nat → Nat} {post post' : Int32 → HC → Prop} (h_post : ∀ u0 u1, post u0 u1 → post' u0 u1) : ∀ n v0 v1 v2 v3 v4, LX8_sixteenth_19 ln post n v0 v1 v2 v3 v4 → LX8_sixteenth_19 ln post' n v0 v1 v2 v3 v4 := by
  intro n
  induction n with
  | zero => intros; assumption
  | succ n ih =>
    intro v0 v1 v2 v3 v4
    rw [LX8_sixteenth_19, LX8_sixteenth_19]
    dsimp only
    repeat' (first | with_reducible exact id | with_reducible exact h_post _ _ | with_reducible exact ih _ _ _ _ _ | with_reducible refine m_lt (fun _ => ?_) | with_reducible refine m_dn (fun _ => ?_) | with_reducible refine m_al (fun _ => ?_) | with_reducible refine m_ite ?_ ?_ | with_reducible refine mm_wpX8_borne (fun _ _ => ?_) | with_reducible refine mm_BX8_sixteenth_47 (fun _ _ => ?_) (fun _ _ _ _ _ => ?_))
theorem mm_wpX8_sixteenth {ln : Nat → Nat} {S : HC} {a0 : Nat} {a1 : Int32} {post post' : Int32 → HC → Prop} (h_post : ∀ u0 u1, post u0 u1 → post' u0 u1) : wpX8_sixteenth ln S a0 a1 post → wpX8_sixteenth ln S a0 a1 post' := by
  unfold wpX8_sixteenth
  repeat' (first | with_reducible exact id | with_reducible exact h_post _ _ | with_reducible refine m_ite ?_ ?_ | with_reducible refine m_ex (fun _ => ?_) | with_reducible refine mm_wpX8_isCharge (fun _ _ => ?_) | with_reducible refine mm_wpX8_worksOf (fun _ => ?_) | with_reducible refine mm_LX8_sixteenth_19 (fun _ _ => ?_) _ _ _ _ _ _)
theorem mm_BX8_from_125 {ln : Nat → Nat} {S : HC} {x0 : Nat} {x2 : Int32} {x3 : Int32} {x4 : Int32} {x5 : Int32} {post post' : Int32 → HC → Prop} {K28 K28' : HC → Nat → Int32 → Int32 → Int32 → Int32 → Prop} (h_post : ∀ u0 u1, post u0 u1 → post' u0 u1) (h_K28 : ∀ u0 u1 u2 u3 u4 u5, K28 u0 u1 u2 u3 u4 u5 → K28' u0 u1 u2 u3 u4 u5) : BX8_from_125 ln post K28 S x0 x2 x3 x4 x5 → BX8_from_125 ln post' K28' S x0 x2 x3 x4 x5 := by
  unfold BX8_from_125
  repeat' (first | with_reducible exact id | with_reducible exact h_post _ _ | with_reducible exact h_K28 _ _ _ _ _ _ | with_reducible refine m_lt (fun _ => ?_))
theorem mm_BX8_from_123 {ln : Nat → Nat} {S : HC} {x0 : Nat} {x2 : Int32} {x3 : Int32} {x5 : Int32} {t0 : Int32} {post post' : Int32 → HC → Prop} {K28 K28' : HC → Nat → Int32 → Int32 → Int32 → Int32 → Prop} (h_post : ∀ u0 u1, post u0 u1 → post' u0 u1) (h_K28 : ∀ u0 u1 u2 u3 u4 u5, K28 u0 u1 u2 u3 u4 u5 → K28' u0 u1 u2 u3 u4 u5) : BX8_from_123 ln post K28 S x0 x2 x3 x5 t0 → BX8_from_123 ln post' K28' S x0 x2 x3 x5 t0 := by
  unfold BX8_from_123
  repeat' (first | with_reducible exact id | with_reducible exact h_post _ _ | with_reducible exact h_K28 _ _ _ _ _ _ | with_reducible refine mm_BX8_from_125 (fun _ _ => ?_) (fun _ _ _ _ _ _ => ?_))
theorem mm_BX8_from_121 {ln : Nat → Nat} {S : HC} {x0 : Nat} {x2 : Int32} {x3 : Int32} {x4 : Int32} {x5 : Int32} {post post' : Int32 → HC → Prop} {K28 K28' : HC → Nat → Int32 → Int32 → Int32 → Int32 → Prop} (h_post : ∀ u0 u1, post u0 u1 → post' u0 u1) (h_K28 : ∀ u0 u1 u2 u3 u4 u5, K28 u0 u1 u2 u3 u4 u5 → K28' u0 u1 u2 u3 u4 u5) : BX8_from_121 ln post K28 S x0 x2 x3 x4 x5 → BX8_from_121 ln post' K28' S x0 x2 x3 x4 x5 := by
  unfold BX8_from_121
  repeat' (first | with_reducible exact id | with_reducible exact h_post _ _ | with_reducible exact h_K28 _ _ _ _ _ _ | with_reducible refine mm_BX8_from_123 (fun _ _ => ?_) (fun _ _ _ _ _ _ => ?_))
theorem mm_BX8_from_93 {ln : Nat → Nat} {S : HC} {x0 : Nat} {x2 : Int32} {x4 : Int32} {x5 : Int32} {t0 : Int32} {t1 : Int32} {post post' : Int32 → HC → Prop} {K28 K28' : HC → Nat → Int32 → Int32 → Int32 → Int32 → Prop} (h_post : ∀ u0 u1, post u0 u1 → post' u0 u1) (h_K28 : ∀ u0 u1 u2 u3 u4 u5, K28 u0 u1 u2 u3 u4 u5 → K28' u0 u1 u2 u3 u4 u5) : BX8_from_93 ln post K28 S x0 x2 x4 x5 t0 t1 → BX8_from_93 ln post' K28' S x0 x2 x4 x5 t0 t1 := by
  unfold BX8_from_93
  repeat' (first | with_reducible exact id | with_reducible exact h_post _ _ | with_reducible exact h_K28 _ _ _ _ _ _ | with_reducible refine m_lt (fun _ => ?_) | with_reducible refine m_ite ?_ ?_ | with_reducible refine mm_wpX8_of (fun _ _ => ?_) | with_reducible refine mm_BX8_from_121 (fun _ _ => ?_) (fun _ _ _ _ _ _ => ?_) | with_reducible refine mm_BX8_from_123 (fun _ _ => ?_) (fun _ _ _ _ _ _ => ?_))
theorem mm_BX8_from_67 {ln : Nat → Nat} {S : HC} {x0 : Nat} {x2 : Int32} {x4 : Int32} {x5 : Int32} {t0 : Int32} {t1 : Int32} {post post' : Int32 → HC → Prop} {K28 K28' : HC → Nat → Int32 → Int32 → Int32 → Int32 → Prop} (h_post : ∀ u0 u1, post u0 u1 → post' u0 u1) (h_K28 : ∀ u0 u1 u2 u3 u4 u5, K28 u0 u1 u2 u3 u4 u5 → K28' u0 u1 u2 u3 u4 u5) : BX8_from_67 ln post K28 S x0 x2 x4 x5 t0 t1 → BX8_from_67 ln post' K28' S x0 x2 x4 x5 t0 t1 := by
  unfold BX8_from_67
  repeat' (first | with_reducible exact id | with_reducible exact h_post _ _ | with_reducible exact h_K28 _ _ _ _ _ _ | with_reducible refine m_lt (fun _ => ?_) | with_reducible refine m_ite ?_ ?_ | with_reducible refine mm_wpX8_of (fun _ _ => ?_) | with_reducible refine mm_BX8_from_93 (fun _ _ => ?_) (fun _ _ _ _ _ _ => ?_))
theorem mm_LX8_from_28 {ln : Nat → Nat} {post post' : Int32 → HC → Prop} (h_post : ∀ u0 u1, post u0 u1 → post' u0 u1) : ∀ n v0 v1 v2 v3 v4 v5, LX8_from_28 ln post n v0 v1 v2 v3 v4 v5 → LX8_from_28 ln post' n v0 v1 v2 v3 v4 v5 := by
  intro n
  induction n with
  | zero => intros; assumption
  | succ n ih =>
    intro v0 v1 v2 v3 v4 v5
    rw [LX8_from_28, LX8_from_28]
    dsimp only
    repeat' (first | with_reducible exact id | with_reducible exact h_post _ _ | with_reducible exact ih _ _ _ _ _ _ | with_reducible refine m_lt (fun _ => ?_) | with_reducible refine m_ite ?_ ?_ | with_reducible refine mm_wpX8_told0 (fun _ _ => ?_) | with_reducible refine mm_wpX8_of (fun _ _ => ?_) | with_reducible refine mm_BX8_from_67 (fun _ _ => ?_) (fun _ _ _ _ _ _ => ?_) | with_reducible refine mm_BX8_from_125 (fun _ _ => ?_) (fun _ _ _ _ _ _ => ?_))
theorem mm_BX8_from_15 {ln : Nat → Nat} {S : HC} {post post' : Int32 → HC → Prop} (h_post : ∀ u0 u1, post u0 u1 → post' u0 u1) : BX8_from_15 ln post S → BX8_from_15 ln post' S := by
  unfold BX8_from_15
  repeat' (first | with_reducible exact id | with_reducible exact h_post _ _)
theorem mm_wpX8_from {ln : Nat → Nat} {S : HC} {a0 : Nat} {a1 : Int32} {a2 : Int32} {post post' : Int32 → HC → Prop} (h_post : ∀ u0 u1, post u0 u1 → post' u0 u1) : wpX8_from ln S a0 a1 a2 post → wpX8_from ln S a0 a1 a2 post' := by
  unfold wpX8_from
  repeat' (first | with_reducible exact id | with_reducible exact h_post _ _ | with_reducible refine m_lt (fun _ => ?_) | with_reducible refine m_ite ?_ ?_ | with_reducible refine m_ex (fun _ => ?_) | with_reducible refine mm_wpX8_isOne (fun _ _ => ?_) | with_reducible refine mm_BX8_from_15 (fun _ _ => ?_) | with_reducible refine mm_wpX8_isCharge (fun _ _ => ?_) | with_reducible refine mm_LX8_from_28 (fun _ _ => ?_) _ _ _ _ _ _ _)
theorem mm_BX8_match_130 {ln : Nat → Nat} {S : HC} {x0 : Nat} {x1 : Int32} {x2 : Int32} {x3 : Int32} {x4 : Int32} {x5 : Int32} {x6 : Int32} {post post' : Int32 → HC → Prop} {K41 K41' : HC → Nat → Int32 → Int32 → Int32 → Int32 → Int32 → Int32 → Prop} (h_post : ∀ u0 u1, post u0 u1 → post' u0 u1) (h_K41 : ∀ u0 u1 u2 u3 u4 u5 u6 u7, K41 u0 u1 u2 u3 u4 u5 u6 u7 → K41' u0 u1 u2 u3 u4 u5 u6 u7) : BX8_match_130 ln post K41 S x0 x1 x2 x3 x4 x5 x6 → BX8_match_130 ln post' K41' S x0 x1 x2 x3 x4 x5 x6 := by
  unfold BX8_match_130
  repeat' (first | with_reducible exact id | with_reducible exact h_post _ _ | with_reducible exact h_K41 _ _ _ _ _ _ _ _ | with_reducible refine m_lt (fun _ => ?_))
theorem mm_BX8_match_128 {ln : Nat → Nat} {S : HC} {x0 : Nat} {x1 : Int32} {x2 : Int32} {x3 : Int32} {x4 : Int32} {x6 : Int32} {t0 : Int32} {post post' : Int32 → HC → Prop} {K41 K41' : HC → Nat → Int32 → Int32 → Int32 → Int32 → Int32 → Int32 → Prop} (h_post : ∀ u0 u1, post u0 u1 → post' u0 u1) (h_K41 : ∀ u0 u1 u2 u3 u4 u5 u6 u7, K41 u0 u1 u2 u3 u4 u5 u6 u7 → K41' u0 u1 u2 u3 u4 u5 u6 u7) : BX8_match_128 ln post K41 S x0 x1 x2 x3 x4 x6 t0 → BX8_match_128 ln post' K41' S x0 x1 x2 x3 x4 x6 t0 := by
  unfold BX8_match_128
  repeat' (first | with_reducible exact id | with_reducible exact h_post _ _ | with_reducible exact h_K41 _ _ _ _ _ _ _ _ | with_reducible refine mm_BX8_match_130 (fun _ _ => ?_) (fun _ _ _ _ _ _ _ _ => ?_))
theorem mm_BX8_match_112 {ln : Nat → Nat} {S : HC} {x0 : Nat} {x1 : Int32} {x2 : Int32} {x3 : Int32} {x5 : Int32} {x6 : Int32} {x7 : Int32} {t0 : Int32} {post post' : Int32 → HC → Prop} {K41 K41' : HC → Nat → Int32 → Int32 → Int32 → Int32 → Int32 → Int32 → Prop} (h_post : ∀ u0 u1, post u0 u1 → post' u0 u1) (h_K41 : ∀ u0 u1 u2 u3 u4 u5 u6 u7, K41 u0 u1 u2 u3 u4 u5 u6 u7 → K41' u0 u1 u2 u3 u4 u5 u6 u7) : BX8_match_112 ln post K41 S x0 x1 x2 x3 x5 x6 x7 t0 → BX8_match_112 ln post' K41' S x0 x1 x2 x3 x5 x6 x7 t0 := by
  unfold BX8_match_112
  repeat' (first | with_reducible exact id | with_reducible exact h_post _ _ | with_reducible exact h_K41 _ _ _ _ _ _ _ _ | with_reducible refine m_ite ?_ ?_ | with_reducible refine mm_BX8_match_128 (fun _ _ => ?_) (fun _ _ _ _ _ _ _ _ => ?_))
theorem mm_BX8_match_96 {ln : Nat → Nat} {S : HC} {x0 : Nat} {x1 : Int32} {x2 : Int32} {x3 : Int32} {x4 : Int32} {x5 : Int32} {x6 : Int32} {t0 : Int32} {post post' : Int32 → HC → Prop} {K41 K41' : HC → Nat → Int32 → Int32 → Int32 → Int32 → Int32 → Int32 → Prop} (h_post : ∀ u0 u1, post u0 u1 → post' u0 u1) (h_K41 : ∀ u0 u1 u2 u3 u4 u5 u6 u7, K41 u0 u1 u2 u3 u4 u5 u6 u7 → K41' u0 u1 u2 u3 u4 u5 u6 u7) : BX8_match_96 ln post K41 S x0 x1 x2 x3 x4 x5 x6 t0 → BX8_match_96 ln post' K41' S x0 x1 x2 x3 x4 x5 x6 t0 := by
  unfold BX8_match_96
  repeat' (first | with_reducible exact id | with_reducible exact h_post _ _ | with_reducible exact h_K41 _ _ _ _ _ _ _ _ | with_reducible refine m_ite ?_ ?_ | with_reducible refine mm_BX8_match_112 (fun _ _ => ?_) (fun _ _ _ _ _ _ _ _ => ?_))
theorem mm_LX8_match_41 {ln : Nat → Nat} {post post' : Int32 → HC → Prop} (h_post : ∀ u0 u1, post u0 u1 → post' u0 u1) : ∀ n v0 v1 v2 v3 v4 v5 v6 v7, LX8_match_41 ln post n v0 v1 v2 v3 v4 v5 v6 v7 → LX8_match_41 ln post' n v0 v1 v2 v3 v4 v5 v6 v7 := by
  intro n
  induction n with
  | zero => intros; assumption
  | succ n ih =>
    intro v0 v1 v2 v3 v4 v5 v6 v7
    rw [LX8_match_41, LX8_match_41]
    dsimp only
    repeat' (first | with_reducible exact id | with_reducible exact h_post _ _ | with_reducible exact ih _ _ _ _ _ _ _ _ | with_reducible refine m_dn (fun _ => ?_) | with_reducible refine m_al (fun _ => ?_) | with_reducible refine m_ite ?_ ?_ | with_reducible refine mm_wpX8_of (fun _ _ => ?_) | with_reducible refine mm_BX8_match_130 (fun _ _ => ?_) (fun _ _ _ _ _ _ _ _ => ?_) | with_reducible refine mm_wpX8_childOf (fun _ _ => ?_) | with_reducible refine mm_BX8_match_96 (fun _ _ => ?_) (fun _ _ _ _ _ _ _ _ => ?_))
theorem mm_BX8_match_24 {ln : Nat → Nat} {S : HC} {post post' : Int32 → HC → Prop} (h_post : ∀ u0 u1, post u0 u1 → post' u0 u1) : BX8_match_24 ln post S → BX8_match_24 ln post' S := by
  unfold BX8_match_24
  repeat' (first | with_reducible exact id | with_reducible exact h_post _ _)
theorem mm_wpX8_match {ln : Nat → Nat} {S : HC} {a0 : Nat} {a1 : Int32} {a2 : Int32} {a3 : Int32} {post post' : Int32 → HC → Prop} (h_post : ∀ u0 u1, post u0 u1 → post' u0 u1) : wpX8_match ln S a0 a1 a2 a3 post → wpX8_match ln S a0 a1 a2 a3 post' := by
  unfold wpX8_match
  repeat' (first | with_reducible exact id | with_reducible exact h_post _ _ | with_reducible refine m_ite ?_ ?_ | with_reducible refine m_ex (fun _ => ?_) | with_reducible refine mm_wpX8_isOne (fun _ _ => ?_) | with_reducible refine mm_BX8_match_24 (fun _ _ => ?_) | with_reducible refine mm_wpX8_isCharge (fun _ _ => ?_) | with_reducible refine mm_wpX8_in (fun _ _ => ?_) | with_reducible refine mm_wpX8_worksOf (fun _ => ?_) | with_reducible refine mm_LX8_match_41 (fun _ _ => ?_) _ _ _ _ _ _ _ _ _)
theorem mm_BX8_repaint_111 {ln : Nat → Nat} {S : HC} {x0 : Nat} {x1 : Int32} {x2 : Int32} {x3 : Int32} {x4 : Int32} {post post' : Int32 → HC → Prop} {K9 K9' : HC → Nat → Int32 → Int32 → Int32 → Prop} (h_post : ∀ u0 u1, post u0 u1 → post' u0 u1) (h_K9 : ∀ u0 u1 u2 u3 u4, K9 u0 u1 u2 u3 u4 → K9' u0 u1 u2 u3 u4) : BX8_repaint_111 ln post K9 S x0 x1 x2 x3 x4 → BX8_repaint_111 ln post' K9' S x0 x1 x2 x3 x4 := by
  unfold BX8_repaint_111
  repeat' (first | with_reducible exact id | with_reducible exact h_post _ _ | with_reducible exact h_K9 _ _ _ _ _ | with_reducible refine m_lt (fun _ => ?_) | with_reducible refine m_dn (fun _ => ?_) | with_reducible refine m_as (fun _ => ?_))
theorem mm_BX8_repaint_105 {ln : Nat → Nat} {S : HC} {x0 : Nat} {x1 : Int32} {x2 : Int32} {x3 : Int32} {x4 : Int32} {x5 : Int32} {post post' : Int32 → HC → Prop} {K9 K9' : HC → Nat → Int32 → Int32 → Int32 → Prop} {K30 K30' : HC → Nat → Int32 → Int32 → Int32 → Int32 → Int32 → Prop} (h_post : ∀ u0 u1, post u0 u1 → post' u0 u1) (h_K9 : ∀ u0 u1 u2 u3 u4, K9 u0 u1 u2 u3 u4 → K9' u0 u1 u2 u3 u4) (h_K30 : ∀ u0 u1 u2 u3 u4 u5 u6, K30 u0 u1 u2 u3 u4 u5 u6 → K30' u0 u1 u2 u3 u4 u5 u6) : BX8_repaint_105 ln post K9 K30 S x0 x1 x2 x3 x4 x5 → BX8_repaint_105 ln post' K9' K30' S x0 x1 x2 x3 x4 x5 := by
  unfold BX8_repaint_105
  repeat' (first | with_reducible exact id | with_reducible exact h_post _ _ | with_reducible exact h_K9 _ _ _ _ _ | with_reducible exact h_K30 _ _ _ _ _ _ _ | with_reducible refine m_lt (fun _ => ?_))
theorem mm_BX8_repaint_104 {ln : Nat → Nat} {S : HC} {x0 : Nat} {x1 : Int32} {x3 : Int32} {x4 : Int32} {x5 : Int32} {t0 : Int32} {post post' : Int32 → HC → Prop} {K9 K9' : HC → Nat → Int32 → Int32 → Int32 → Prop} {K30 K30' : HC → Nat → Int32 → Int32 → Int32 → Int32 → Int32 → Prop} (h_post : ∀ u0 u1, post u0 u1 → post' u0 u1) (h_K9 : ∀ u0 u1 u2 u3 u4, K9 u0 u1 u2 u3 u4 → K9' u0 u1 u2 u3 u4) (h_K30 : ∀ u0 u1 u2 u3 u4 u5 u6, K30 u0 u1 u2 u3 u4 u5 u6 → K30' u0 u1 u2 u3 u4 u5 u6) : BX8_repaint_104 ln post K9 K30 S x0 x1 x3 x4 x5 t0 → BX8_repaint_104 ln post' K9' K30' S x0 x1 x3 x4 x5 t0 := by
  unfold BX8_repaint_104
  repeat' (first | with_reducible exact id | with_reducible exact h_post _ _ | with_reducible exact h_K9 _ _ _ _ _ | with_reducible exact h_K30 _ _ _ _ _ _ _ | with_reducible refine mm_BX8_repaint_105 (fun _ _ => ?_) (fun _ _ _ _ _ => ?_) (fun _ _ _ _ _ _ _ => ?_))
theorem mm_BX8_repaint_91 {ln : Nat → Nat} {S : HC} {x0 : Nat} {x2 : Int32} {x3 : Int32} {x4 : Int32} {x5 : Int32} {x6 : Int32} {t0 : Int32} {post post' : Int32 → HC → Prop} {K9 K9' : HC → Nat → Int32 → Int32 → Int32 → Prop} {K30 K30' : HC → Nat → Int32 → Int32 → Int32 → Int32 → Int32 → Prop} (h_post : ∀ u0 u1, post u0 u1 → post' u0 u1) (h_K9 : ∀ u0 u1 u2 u3 u4, K9 u0 u1 u2 u3 u4 → K9' u0 u1 u2 u3 u4) (h_K30 : ∀ u0 u1 u2 u3 u4 u5 u6, K30 u0 u1 u2 u3 u4 u5 u6 → K30' u0 u1 u2 u3 u4 u5 u6) : BX8_repaint_91 ln post K9 K30 S x0 x2 x3 x4 x5 x6 t0 → BX8_repaint_91 ln post' K9' K30' S x0 x2 x3 x4 x5 x6 t0 := by
  unfold BX8_repaint_91
  repeat' (first | with_reducible exact id | with_reducible exact h_post _ _ | with_reducible exact h_K9 _ _ _ _ _ | with_reducible exact h_K30 _ _ _ _ _ _ _ | with_reducible refine m_ite ?_ ?_ | with_reducible refine mm_BX8_repaint_104 (fun _ _ => ?_) (fun _ _ _ _ _ => ?_) (fun _ _ _ _ _ _ _ => ?_))
theorem mm_LX8_repaint_30 {ln : Nat → Nat} {post post' : Int32 → HC → Prop} {K9 K9' : HC → Nat → Int32 → Int32 → Int32 → Prop} (h_post : ∀ u0 u1, post u0 u1 → post' u0 u1) (h_K9 : ∀ u0 u1 u2 u3 u4, K9 u0 u1 u2 u3 u4 → K9' u0 u1 u2 u3 u4) : ∀ n v0 v1 v2 v3 v4 v5 v6, LX8_repaint_30 ln post K9 n v0 v1 v2 v3 v4 v5 v6 → LX8_repaint_30 ln post' K9' n v0 v1 v2 v3 v4 v5 v6 := by
  intro n
  induction n with
  | zero => intros; assumption
  | succ n ih =>
    intro v0 v1 v2 v3 v4 v5 v6
    rw [LX8_repaint_30, LX8_repaint_30]
    dsimp only
    repeat' (first | with_reducible exact id | with_reducible exact h_post _ _ | with_reducible exact h_K9 _ _ _ _ _ | with_reducible exact ih _ _ _ _ _ _ _ | with_reducible refine m_lt (fun _ => ?_) | with_reducible refine m_dn (fun _ => ?_) | with_reducible refine m_as (fun _ => ?_) | with_reducible refine m_ite ?_ ?_ | with_reducible refine mm_BX8_repaint_111 (fun _ _ => ?_) (fun _ _ _ _ _ => ?_) | with_reducible refine mm_wpX8_of (fun _ _ => ?_) | with_reducible refine mm_BX8_repaint_105 (fun _ _ => ?_) (fun _ _ _ _ _ => ?_) (fun _ _ _ _ _ _ _ => ?_) | with_reducible refine mm_wpX8_clashes (fun _ _ => ?_) | with_reducible refine mm_BX8_repaint_91 (fun _ _ => ?_) (fun _ _ _ _ _ => ?_) (fun _ _ _ _ _ _ _ => ?_))
theorem mm_LX8_repaint_9 {ln : Nat → Nat} {post post' : Int32 → HC → Prop} (h_post : ∀ u0 u1, post u0 u1 → post' u0 u1) : ∀ n v0 v1 v2 v3 v4, LX8_repaint_9 ln post n v0 v1 v2 v3 v4 → LX8_repaint_9 ln post' n v0 v1 v2 v3 v4 := by
  intro n
  induction n with
  | zero => intros; assumption
  | succ n ih =>
    intro v0 v1 v2 v3 v4
    rw [LX8_repaint_9, LX8_repaint_9]
    dsimp only
    repeat' (first | with_reducible exact id | with_reducible exact h_post _ _ | with_reducible exact ih _ _ _ _ _ | with_reducible refine m_dn (fun _ => ?_) | with_reducible refine m_al (fun _ => ?_) | with_reducible refine m_ite ?_ ?_ | with_reducible refine m_ex (fun _ => ?_) | with_reducible refine mm_wpX8_told0 (fun _ _ => ?_) | with_reducible refine mm_wpX8_of (fun _ _ => ?_) | with_reducible refine mm_LX8_repaint_30 (fun _ _ => ?_) (fun _ _ _ _ _ => ?_) _ _ _ _ _ _ _ _)
theorem mm_wpX8_repaint {ln : Nat → Nat} {S : HC} {a0 : Nat} {post post' : Int32 → HC → Prop} (h_post : ∀ u0 u1, post u0 u1 → post' u0 u1) : wpX8_repaint ln S a0 post → wpX8_repaint ln S a0 post' := by
  unfold wpX8_repaint
  repeat' (first | with_reducible exact id | with_reducible exact h_post _ _ | with_reducible refine m_ex (fun _ => ?_) | with_reducible refine mm_wpX8_clashes (fun _ _ => ?_) | with_reducible refine mm_LX8_repaint_9 (fun _ _ => ?_) _ _ _ _ _ _)
theorem mm_LX8_thinks_2 {ln : Nat → Nat} {post post' : HC → Prop} (h_post : ∀ u0, post u0 → post' u0) : ∀ n v0 v1 v2, LX8_thinks_2 ln post n v0 v1 v2 → LX8_thinks_2 ln post' n v0 v1 v2 := by
  intro n
  induction n with
  | zero => intros; assumption
  | succ n ih =>
    intro v0 v1 v2
    rw [LX8_thinks_2, LX8_thinks_2]
    dsimp only
    repeat' (first | with_reducible exact id | with_reducible exact h_post _ | with_reducible exact ih _ _ _ | with_reducible refine m_lt (fun _ => ?_) | with_reducible refine m_dn (fun _ => ?_) | with_reducible refine m_al (fun _ => ?_) | with_reducible refine m_as (fun _ => ?_) | with_reducible refine m_ite ?_ ?_)
theorem mm_wpX8_thinks {ln : Nat → Nat} {S : HC} {a0 : Nat} {post post' : HC → Prop} (h_post : ∀ u0, post u0 → post' u0) : wpX8_thinks ln S a0 post → wpX8_thinks ln S a0 post' := by
  unfold wpX8_thinks
  repeat' (first | with_reducible exact id | with_reducible exact h_post _ | with_reducible refine m_ex (fun _ => ?_) | with_reducible refine mm_LX8_thinks_2 (fun _ => ?_) _ _ _ _)
theorem mm_LX8_putsBack_2 {ln : Nat → Nat} {post post' : HC → Prop} (h_post : ∀ u0, post u0 → post' u0) : ∀ n v0 v1 v2, LX8_putsBack_2 ln post n v0 v1 v2 → LX8_putsBack_2 ln post' n v0 v1 v2 := by
  intro n
  induction n with
  | zero => intros; assumption
  | succ n ih =>
    intro v0 v1 v2
    rw [LX8_putsBack_2, LX8_putsBack_2]
    dsimp only
    repeat' (first | with_reducible exact id | with_reducible exact h_post _ | with_reducible exact ih _ _ _ | with_reducible refine m_lt (fun _ => ?_) | with_reducible refine m_dn (fun _ => ?_) | with_reducible refine m_al (fun _ => ?_) | with_reducible refine m_as (fun _ => ?_) | with_reducible refine m_ite ?_ ?_)
theorem mm_wpX8_putsBack {ln : Nat → Nat} {S : HC} {a0 : Nat} {post post' : HC → Prop} (h_post : ∀ u0, post u0 → post' u0) : wpX8_putsBack ln S a0 post → wpX8_putsBack ln S a0 post' := by
  unfold wpX8_putsBack
  repeat' (first | with_reducible exact id | with_reducible exact h_post _ | with_reducible refine m_ex (fun _ => ?_) | with_reducible refine mm_LX8_putsBack_2 (fun _ => ?_) _ _ _ _)
theorem mm_LX8_allBear_9 {ln : Nat → Nat} {post post' : Int32 → HC → Prop} (h_post : ∀ u0 u1, post u0 u1 → post' u0 u1) : ∀ n v0 v1 v2 v3 v4, LX8_allBear_9 ln post n v0 v1 v2 v3 v4 → LX8_allBear_9 ln post' n v0 v1 v2 v3 v4 := by
  intro n
  induction n with
  | zero => intros; assumption
  | succ n ih =>
    intro v0 v1 v2 v3 v4
    rw [LX8_allBear_9, LX8_allBear_9]
    dsimp only
    repeat' (first | with_reducible exact id | with_reducible exact h_post _ _ | with_reducible exact ih _ _ _ _ _ | with_reducible refine m_lt (fun _ => ?_) | with_reducible refine m_dn (fun _ => ?_) | with_reducible refine m_al (fun _ => ?_) | with_reducible refine m_ite ?_ ?_ | with_reducible refine mm_wpX8_borne (fun _ _ => ?_))
theorem mm_wpX8_allBear {ln : Nat → Nat} {S : HC} {a0 : Nat} {a1 : Int32} {post post' : Int32 → HC → Prop} (h_post : ∀ u0 u1, post u0 u1 → post' u0 u1) : wpX8_allBear ln S a0 a1 post → wpX8_allBear ln S a0 a1 post' := by
  unfold wpX8_allBear
  repeat' (first | with_reducible exact id | with_reducible exact h_post _ _ | with_reducible refine m_ex (fun _ => ?_) | with_reducible refine mm_wpX8_worksOf (fun _ => ?_) | with_reducible refine mm_LX8_allBear_9 (fun _ _ => ?_) _ _ _ _ _ _)
theorem mm_BX8_behind_64 {ln : Nat → Nat} {S : HC} {x0 : Nat} {t0 : Int32} {post post' : Int32 → HC → Prop} (h_post : ∀ u0 u1, post u0 u1 → post' u0 u1) : BX8_behind_64 ln post S x0 t0 → BX8_behind_64 ln post' S x0 t0 := by
  unfold BX8_behind_64
  repeat' (first | with_reducible exact id | with_reducible exact h_post _ _ | with_reducible refine mm_wpX8_putsBack (fun _ => ?_))
theorem mm_BX8_behind_20 {ln : Nat → Nat} {S : HC} {post post' : Int32 → HC → Prop} (h_post : ∀ u0 u1, post u0 u1 → post' u0 u1) : BX8_behind_20 ln post S → BX8_behind_20 ln post' S := by
  unfold BX8_behind_20
  repeat' (first | with_reducible exact id | with_reducible exact h_post _ _)
theorem mm_wpX8_behind {ln : Nat → Nat} {S : HC} {a0 : Nat} {a1 : Int32} {a2 : Int32} {post post' : Int32 → HC → Prop} (h_post : ∀ u0 u1, post u0 u1 → post' u0 u1) : wpX8_behind ln S a0 a1 a2 post → wpX8_behind ln S a0 a1 a2 post' := by
  unfold wpX8_behind
  repeat' (first | with_reducible exact id | with_reducible exact h_post _ _ | with_reducible refine m_lt (fun _ => ?_) | with_reducible refine m_dn (fun _ => ?_) | with_reducible refine m_al (fun _ => ?_) | with_reducible refine m_ite ?_ ?_ | with_reducible refine mm_wpX8_in (fun _ _ => ?_) | with_reducible refine mm_BX8_behind_20 (fun _ _ => ?_) | with_reducible refine mm_wpX8_thinks (fun _ => ?_) | with_reducible refine mm_wpX8_goesOn (fun _ => ?_) | with_reducible refine mm_BX8_behind_64 (fun _ _ => ?_) | with_reducible refine mm_wpX8_clashes (fun _ _ => ?_) | with_reducible refine mm_wpX8_allBear (fun _ _ => ?_))
theorem mm_BX8_born_56 {ln : Nat → Nat} {S : HC} {x0 : Nat} {t0 : Int32} {post post' : Int32 → HC → Prop} (h_post : ∀ u0 u1, post u0 u1 → post' u0 u1) : BX8_born_56 ln post S x0 t0 → BX8_born_56 ln post' S x0 t0 := by
  unfold BX8_born_56
  repeat' (first | with_reducible exact id | with_reducible exact h_post _ _ | with_reducible refine mm_wpX8_putsBack (fun _ => ?_))
theorem mm_BX8_born_40 {ln : Nat → Nat} {S : HC} {x0 : Nat} {x1 : Int32} {x2 : Int32} {post post' : Int32 → HC → Prop} (h_post : ∀ u0 u1, post u0 u1 → post' u0 u1) : BX8_born_40 ln post S x0 x1 x2 → BX8_born_40 ln post' S x0 x1 x2 := by
  unfold BX8_born_40
  repeat' (first | with_reducible exact id | with_reducible exact h_post _ _ | with_reducible refine m_dn (fun _ => ?_) | with_reducible refine m_al (fun _ => ?_) | with_reducible refine m_ite ?_ ?_ | with_reducible refine mm_BX8_born_56 (fun _ _ => ?_))
theorem mm_LX8_born_13 {ln : Nat → Nat} {post post' : Int32 → HC → Prop} (h_post : ∀ u0 u1, post u0 u1 → post' u0 u1) : ∀ n v0 v1 v2 v3, LX8_born_13 ln post n v0 v1 v2 v3 → LX8_born_13 ln post' n v0 v1 v2 v3 := by
  intro n
  induction n with
  | zero => intros; assumption
  | succ n ih =>
    intro v0 v1 v2 v3
    rw [LX8_born_13, LX8_born_13]
    dsimp only
    repeat' (first | with_reducible exact id | with_reducible exact h_post _ _ | with_reducible exact ih _ _ _ _ | with_reducible refine m_lt (fun _ => ?_) | with_reducible refine m_dn (fun _ => ?_) | with_reducible refine m_al (fun _ => ?_) | with_reducible refine m_ite ?_ ?_ | with_reducible refine mm_BX8_born_40 (fun _ _ => ?_) | with_reducible refine mm_wpX8_year (fun _ => ?_))
theorem mm_wpX8_born {ln : Nat → Nat} {S : HC} {a0 : Nat} {post post' : Int32 → HC → Prop} (h_post : ∀ u0 u1, post u0 u1 → post' u0 u1) : wpX8_born ln S a0 post → wpX8_born ln S a0 post' := by
  unfold wpX8_born
  repeat' (first | with_reducible exact id | with_reducible exact h_post _ _ | with_reducible refine m_dn (fun _ => ?_) | with_reducible refine m_al (fun _ => ?_) | with_reducible refine m_ex (fun _ => ?_) | with_reducible refine mm_wpX8_thinks (fun _ => ?_) | with_reducible refine mm_LX8_born_13 (fun _ _ => ?_) _ _ _ _ _)
theorem mm_BX8_gone_123 {ln : Nat → Nat} {S : HC} {x0 : Nat} {x2 : Int32} {x3 : Int32} {x5 : Int32} {t0 : Int32} {post post' : Int32 → HC → Prop} {K44 K44' : HC → Nat → Int32 → Int32 → Int32 → Int32 → Prop} (h_post : ∀ u0 u1, post u0 u1 → post' u0 u1) (h_K44 : ∀ u0 u1 u2 u3 u4 u5, K44 u0 u1 u2 u3 u4 u5 → K44' u0 u1 u2 u3 u4 u5) : BX8_gone_123 ln post K44 S x0 x2 x3 x5 t0 → BX8_gone_123 ln post' K44' S x0 x2 x3 x5 t0 := by
  unfold BX8_gone_123
  repeat' (first | with_reducible exact id | with_reducible exact h_post _ _ | with_reducible exact h_K44 _ _ _ _ _ _ | with_reducible refine m_lt (fun _ => ?_))
theorem mm_BX8_gone_108 {ln : Nat → Nat} {S : HC} {x0 : Nat} {x2 : Int32} {x4 : Int32} {x5 : Int32} {x6 : Int32} {t0 : Int32} {post post' : Int32 → HC → Prop} {K44 K44' : HC → Nat → Int32 → Int32 → Int32 → Int32 → Prop} (h_post : ∀ u0 u1, post u0 u1 → post' u0 u1) (h_K44 : ∀ u0 u1 u2 u3 u4 u5, K44 u0 u1 u2 u3 u4 u5 → K44' u0 u1 u2 u3 u4 u5) : BX8_gone_108 ln post K44 S x0 x2 x4 x5 x6 t0 → BX8_gone_108 ln post' K44' S x0 x2 x4 x5 x6 t0 := by
  unfold BX8_gone_108
  repeat' (first | with_reducible exact id | with_reducible exact h_post _ _ | with_reducible exact h_K44 _ _ _ _ _ _ | with_reducible refine m_ite ?_ ?_ | with_reducible refine mm_BX8_gone_123 (fun _ _ => ?_) (fun _ _ _ _ _ _ => ?_))
theorem mm_BX8_gone_86 {ln : Nat → Nat} {S : HC} {x0 : Nat} {x2 : Int32} {x3 : Int32} {x4 : Int32} {x5 : Int32} {x7 : Int32} {t0 : Int32} {t1 : Int32} {post post' : Int32 → HC → Prop} {K44 K44' : HC → Nat → Int32 → Int32 → Int32 → Int32 → Prop} {K57 K57' : HC → Nat → Int32 → Int32 → Int32 → Int32 → Int32 → Int32 → Prop} (h_post : ∀ u0 u1, post u0 u1 → post' u0 u1) (h_K44 : ∀ u0 u1 u2 u3 u4 u5, K44 u0 u1 u2 u3 u4 u5 → K44' u0 u1 u2 u3 u4 u5) (h_K57 : ∀ u0 u1 u2 u3 u4 u5 u6 u7, K57 u0 u1 u2 u3 u4 u5 u6 u7 → K57' u0 u1 u2 u3 u4 u5 u6 u7) : BX8_gone_86 ln post K44 K57 S x0 x2 x3 x4 x5 x7 t0 t1 → BX8_gone_86 ln post' K44' K57' S x0 x2 x3 x4 x5 x7 t0 t1 := by
  unfold BX8_gone_86
  repeat' (first | with_reducible exact id | with_reducible exact h_post _ _ | with_reducible exact h_K44 _ _ _ _ _ _ | with_reducible exact h_K57 _ _ _ _ _ _ _ _ | with_reducible refine m_lt (fun _ => ?_))
theorem mm_LX8_gone_57 {ln : Nat → Nat} {post post' : Int32 → HC → Prop} {K44 K44' : HC → Nat → Int32 → Int32 → Int32 → Int32 → Prop} (h_post : ∀ u0 u1, post u0 u1 → post' u0 u1) (h_K44 : ∀ u0 u1 u2 u3 u4 u5, K44 u0 u1 u2 u3 u4 u5 → K44' u0 u1 u2 u3 u4 u5) : ∀ n v0 v1 v2 v3 v4 v5 v6 v7, LX8_gone_57 ln post K44 n v0 v1 v2 v3 v4 v5 v6 v7 → LX8_gone_57 ln post' K44' n v0 v1 v2 v3 v4 v5 v6 v7 := by
  intro n
  induction n with
  | zero => intros; assumption
  | succ n ih =>
    intro v0 v1 v2 v3 v4 v5 v6 v7
    rw [LX8_gone_57, LX8_gone_57]
    dsimp only
    repeat' (first | with_reducible exact id | with_reducible exact h_post _ _ | with_reducible exact h_K44 _ _ _ _ _ _ | with_reducible exact ih _ _ _ _ _ _ _ _ | with_reducible refine m_dn (fun _ => ?_) | with_reducible refine m_al (fun _ => ?_) | with_reducible refine m_ite ?_ ?_ | with_reducible refine mm_BX8_gone_108 (fun _ _ => ?_) (fun _ _ _ _ _ _ => ?_) | with_reducible refine mm_wpX8_borne (fun _ _ => ?_) | with_reducible refine mm_BX8_gone_86 (fun _ _ => ?_) (fun _ _ _ _ _ _ => ?_) (fun _ _ _ _ _ _ _ _ => ?_))
theorem mm_LX8_gone_44 {ln : Nat → Nat} {post post' : Int32 → HC → Prop} (h_post : ∀ u0 u1, post u0 u1 → post' u0 u1) : ∀ n v0 v1 v2 v3 v4 v5, LX8_gone_44 ln post n v0 v1 v2 v3 v4 v5 → LX8_gone_44 ln post' n v0 v1 v2 v3 v4 v5 := by
  intro n
  induction n with
  | zero => intros; assumption
  | succ n ih =>
    intro v0 v1 v2 v3 v4 v5
    rw [LX8_gone_44, LX8_gone_44]
    dsimp only
    repeat' (first | with_reducible exact id | with_reducible exact h_post _ _ | with_reducible exact ih _ _ _ _ _ _ | with_reducible refine m_ite ?_ ?_ | with_reducible refine m_ex (fun _ => ?_) | with_reducible refine mm_wpX8_putsBack (fun _ => ?_) | with_reducible refine mm_LX8_gone_57 (fun _ _ => ?_) (fun _ _ _ _ _ _ => ?_) _ _ _ _ _ _ _ _ _)
theorem mm_BX8_gone_19 {ln : Nat → Nat} {S : HC} {post post' : Int32 → HC → Prop} (h_post : ∀ u0 u1, post u0 u1 → post' u0 u1) : BX8_gone_19 ln post S → BX8_gone_19 ln post' S := by
  unfold BX8_gone_19
  repeat' (first | with_reducible exact id | with_reducible exact h_post _ _)
theorem mm_wpX8_gone {ln : Nat → Nat} {S : HC} {a0 : Nat} {a1 : Int32} {a2 : Int32} {post post' : Int32 → HC → Prop} (h_post : ∀ u0 u1, post u0 u1 → post' u0 u1) : wpX8_gone ln S a0 a1 a2 post → wpX8_gone ln S a0 a1 a2 post' := by
  unfold wpX8_gone
  repeat' (first | with_reducible exact id | with_reducible exact h_post _ _ | with_reducible refine m_ite ?_ ?_ | with_reducible refine m_ex (fun _ => ?_) | with_reducible refine mm_wpX8_in (fun _ _ => ?_) | with_reducible refine mm_BX8_gone_19 (fun _ _ => ?_) | with_reducible refine mm_wpX8_thinks (fun _ => ?_) | with_reducible refine mm_wpX8_goesOn (fun _ => ?_) | with_reducible refine mm_wpX8_worksAll (fun _ => ?_) | with_reducible refine mm_LX8_gone_44 (fun _ _ => ?_) _ _ _ _ _ _ _)
theorem mm_wpX8_isSheet {ln : Nat → Nat} {S : HC} {a0 : Int32} {post post' : Int32 → HC → Prop} (h_post : ∀ u0 u1, post u0 u1 → post' u0 u1) : wpX8_isSheet ln S a0 post → wpX8_isSheet ln S a0 post' := by
  unfold wpX8_isSheet
  repeat' (first | with_reducible exact id | with_reducible exact h_post _ _ | with_reducible refine m_rb ?_ | with_reducible refine mm_wpX8_in (fun _ _ => ?_))
theorem mm_wpX8_isSlot {ln : Nat → Nat} {S : HC} {a0 : Int32} {post post' : Int32 → HC → Prop} (h_post : ∀ u0 u1, post u0 u1 → post' u0 u1) : wpX8_isSlot ln S a0 post → wpX8_isSlot ln S a0 post' := by
  unfold wpX8_isSlot
  repeat' (first | with_reducible exact id | with_reducible exact h_post _ _ | with_reducible refine m_rb ?_ | with_reducible refine mm_wpX8_in (fun _ _ => ?_))
theorem mm_BX8_offBy_82 {ln : Nat → Nat} {S : HC} {x0 : Nat} {x1 : Int32} {x2 : Int32} {x5 : Int32} {t0 : Int64} {t1 : Int64} {post post' : Int64 → HC → Prop} {K5 K5' : HC → Nat → Int32 → Int32 → Int64 → Int32 → Prop} (h_post : ∀ u0 u1, post u0 u1 → post' u0 u1) (h_K5 : ∀ u0 u1 u2 u3 u4 u5, K5 u0 u1 u2 u3 u4 u5 → K5' u0 u1 u2 u3 u4 u5) : BX8_offBy_82 ln post K5 S x0 x1 x2 x5 t0 t1 → BX8_offBy_82 ln post' K5' S x0 x1 x2 x5 t0 t1 := by
  unfold BX8_offBy_82
  repeat' (first | with_reducible exact id | with_reducible exact h_post _ _ | with_reducible exact h_K5 _ _ _ _ _ _ | with_reducible refine m_lt (fun _ => ?_))
theorem mm_BX8_offBy_51 {ln : Nat → Nat} {S : HC} {x0 : Nat} {x1 : Int32} {x2 : Int32} {x3 : Int64} {x5 : Int32} {x6 : Int32} {t0 : Int64} {t1 : Int32} {post post' : Int64 → HC → Prop} {K5 K5' : HC → Nat → Int32 → Int32 → Int64 → Int32 → Prop} (h_post : ∀ u0 u1, post u0 u1 → post' u0 u1) (h_K5 : ∀ u0 u1 u2 u3 u4 u5, K5 u0 u1 u2 u3 u4 u5 → K5' u0 u1 u2 u3 u4 u5) : BX8_offBy_51 ln post K5 S x0 x1 x2 x3 x5 x6 t0 t1 → BX8_offBy_51 ln post' K5' S x0 x1 x2 x3 x5 x6 t0 t1 := by
  unfold BX8_offBy_51
  repeat' (first | with_reducible exact id | with_reducible exact h_post _ _ | with_reducible exact h_K5 _ _ _ _ _ _ | with_reducible refine m_lt (fun _ => ?_) | with_reducible refine m_ite ?_ ?_ | with_reducible refine mm_BX8_offBy_82 (fun _ _ => ?_) (fun _ _ _ _ _ _ => ?_))
theorem mm_LX8_offBy_5 {ln : Nat → Nat} {post post' : Int64 → HC → Prop} (h_post : ∀ u0 u1, post u0 u1 → post' u0 u1) : ∀ n v0 v1 v2 v3 v4 v5, LX8_offBy_5 ln post n v0 v1 v2 v3 v4 v5 → LX8_offBy_5 ln post' n v0 v1 v2 v3 v4 v5 := by
  intro n
  induction n with
  | zero => intros; assumption
  | succ n ih =>
    intro v0 v1 v2 v3 v4 v5
    rw [LX8_offBy_5, LX8_offBy_5]
    dsimp only
    repeat' (first | with_reducible exact id | with_reducible exact h_post _ _ | with_reducible exact ih _ _ _ _ _ _ | with_reducible refine m_lt (fun _ => ?_) | with_reducible refine m_dn (fun _ => ?_) | with_reducible refine m_al (fun _ => ?_) | with_reducible refine m_ite ?_ ?_ | with_reducible refine mm_BX8_offBy_51 (fun _ _ => ?_) (fun _ _ _ _ _ _ => ?_) | with_reducible refine mm_wpX8_borne (fun _ _ => ?_))
theorem mm_wpX8_offBy {ln : Nat → Nat} {S : HC} {a0 : Nat} {a1 : Int32} {a2 : Int32} {post post' : Int64 → HC → Prop} (h_post : ∀ u0 u1, post u0 u1 → post' u0 u1) : wpX8_offBy ln S a0 a1 a2 post → wpX8_offBy ln S a0 a1 a2 post' := by
  unfold wpX8_offBy
  repeat' (first | with_reducible exact id | with_reducible exact h_post _ _ | with_reducible refine m_ex (fun _ => ?_) | with_reducible refine mm_LX8_offBy_5 (fun _ _ => ?_) _ _ _ _ _ _ _)
theorem mm_BX8_spoon_82 {ln : Nat → Nat} {S : HC} {x0 : Nat} {x1 : Int32} {x2 : Int32} {x3 : Int32} {x4 : Int64} {x6 : Int32} {post post' : Int32 → HC → Prop} {K43 K43' : HC → Nat → Int32 → Int32 → Int32 → Int64 → Int32 → Prop} (h_post : ∀ u0 u1, post u0 u1 → post' u0 u1) (h_K43 : ∀ u0 u1 u2 u3 u4 u5 u6, K43 u0 u1 u2 u3 u4 u5 u6 → K43' u0 u1 u2 u3 u4 u5 u6) : BX8_spoon_82 ln post K43 S x0 x1 x2 x3 x4 x6 → BX8_spoon_82 ln post' K43' S x0 x1 x2 x3 x4 x6 := by
  unfold BX8_spoon_82
  repeat' (first | with_reducible exact id | with_reducible exact h_post _ _ | with_reducible exact h_K43 _ _ _ _ _ _ _ | with_reducible refine m_lt (fun _ => ?_))
theorem mm_BX8_spoon_75 {ln : Nat → Nat} {S : HC} {x0 : Nat} {x1 : Int32} {x2 : Int32} {x6 : Int32} {x7 : Int64} {post post' : Int32 → HC → Prop} {K43 K43' : HC → Nat → Int32 → Int32 → Int32 → Int64 → Int32 → Prop} (h_post : ∀ u0 u1, post u0 u1 → post' u0 u1) (h_K43 : ∀ u0 u1 u2 u3 u4 u5 u6, K43 u0 u1 u2 u3 u4 u5 u6 → K43' u0 u1 u2 u3 u4 u5 u6) : BX8_spoon_75 ln post K43 S x0 x1 x2 x6 x7 → BX8_spoon_75 ln post' K43' S x0 x1 x2 x6 x7 := by
  unfold BX8_spoon_75
  repeat' (first | with_reducible exact id | with_reducible exact h_post _ _ | with_reducible exact h_K43 _ _ _ _ _ _ _ | with_reducible refine mm_BX8_spoon_82 (fun _ _ => ?_) (fun _ _ _ _ _ _ _ => ?_))
theorem mm_LX8_spoon_43 {ln : Nat → Nat} {post post' : Int32 → HC → Prop} (h_post : ∀ u0 u1, post u0 u1 → post' u0 u1) : ∀ n v0 v1 v2 v3 v4 v5 v6, LX8_spoon_43 ln post n v0 v1 v2 v3 v4 v5 v6 → LX8_spoon_43 ln post' n v0 v1 v2 v3 v4 v5 v6 := by
  intro n
  induction n with
  | zero => intros; assumption
  | succ n ih =>
    intro v0 v1 v2 v3 v4 v5 v6
    rw [LX8_spoon_43, LX8_spoon_43]
    dsimp only
    repeat' (first | with_reducible exact id | with_reducible exact h_post _ _ | with_reducible exact ih _ _ _ _ _ _ _ | with_reducible refine m_lt (fun _ => ?_) | with_reducible refine m_dn (fun _ => ?_) | with_reducible refine m_al (fun _ => ?_) | with_reducible refine m_ite ?_ ?_ | with_reducible refine mm_wpX8_offBy (fun _ _ => ?_) | with_reducible refine mm_BX8_spoon_75 (fun _ _ => ?_) (fun _ _ _ _ _ _ _ => ?_) | with_reducible refine mm_BX8_spoon_82 (fun _ _ => ?_) (fun _ _ _ _ _ _ _ => ?_))
theorem mm_BX8_spoon_16 {ln : Nat → Nat} {S : HC} {post post' : Int32 → HC → Prop} (h_post : ∀ u0 u1, post u0 u1 → post' u0 u1) : BX8_spoon_16 ln post S → BX8_spoon_16 ln post' S := by
  unfold BX8_spoon_16
  repeat' (first | with_reducible exact id | with_reducible exact h_post _ _)
theorem mm_wpX8_spoon {ln : Nat → Nat} {S : HC} {a0 : Nat} {a1 : Int32} {a2 : Int32} {post post' : Int32 → HC → Prop} (h_post : ∀ u0 u1, post u0 u1 → post' u0 u1) : wpX8_spoon ln S a0 a1 a2 post → wpX8_spoon ln S a0 a1 a2 post' := by
  unfold wpX8_spoon
  repeat' (first | with_reducible exact id | with_reducible exact h_post _ _ | with_reducible refine m_dn (fun _ => ?_) | with_reducible refine m_al (fun _ => ?_) | with_reducible refine m_ite ?_ ?_ | with_reducible refine m_ex (fun _ => ?_) | with_reducible refine mm_wpX8_isSheet (fun _ _ => ?_) | with_reducible refine mm_BX8_spoon_16 (fun _ _ => ?_) | with_reducible refine mm_wpX8_in (fun _ _ => ?_) | with_reducible refine mm_wpX8_worksAll (fun _ => ?_) | with_reducible refine mm_LX8_spoon_43 (fun _ _ => ?_) _ _ _ _ _ _ _ _)
theorem mm_wpX8_fee {ln : Nat → Nat} {S : HC} {a0 : Nat} {post post' : Int32 → HC → Prop} (h_post : ∀ u0 u1, post u0 u1 → post' u0 u1) : wpX8_fee ln S a0 post → wpX8_fee ln S a0 post' := by
  unfold wpX8_fee
  repeat' (first | with_reducible exact id | with_reducible exact h_post _ _ | with_reducible refine m_dn (fun _ => ?_) | with_reducible refine m_al (fun _ => ?_) | with_reducible refine m_as (fun _ => ?_) | with_reducible refine m_ite ?_ ?_ | with_reducible refine mm_wpX8_counts (fun _ _ => ?_) | with_reducible refine mm_wpX8_worksOut (fun _ _ => ?_))
theorem mm_LX8_fine_22 {ln : Nat → Nat} {post post' : Int32 → HC → Prop} (h_post : ∀ u0 u1, post u0 u1 → post' u0 u1) : ∀ n v0 v1 v2 v3 v4 v5, LX8_fine_22 ln post n v0 v1 v2 v3 v4 v5 → LX8_fine_22 ln post' n v0 v1 v2 v3 v4 v5 := by
  intro n
  induction n with
  | zero => intros; assumption
  | succ n ih =>
    intro v0 v1 v2 v3 v4 v5
    rw [LX8_fine_22, LX8_fine_22]
    dsimp only
    repeat' (first | with_reducible exact id | with_reducible exact h_post _ _ | with_reducible exact ih _ _ _ _ _ _ | with_reducible refine m_lt (fun _ => ?_) | with_reducible refine m_dn (fun _ => ?_) | with_reducible refine m_as (fun _ => ?_) | with_reducible refine m_ite ?_ ?_ | with_reducible refine mm_wpX8_of (fun _ _ => ?_) | with_reducible refine mm_wpX8_worksOut (fun _ _ => ?_))
theorem mm_wpX8_fine {ln : Nat → Nat} {S : HC} {a0 : Nat} {a1 : Int32} {post post' : Int32 → HC → Prop} (h_post : ∀ u0 u1, post u0 u1 → post' u0 u1) : wpX8_fine ln S a0 a1 post → wpX8_fine ln S a0 a1 post' := by
  unfold wpX8_fine
  repeat' (first | with_reducible exact id | with_reducible exact h_post _ _ | with_reducible refine m_ite ?_ ?_ | with_reducible refine m_ex (fun _ => ?_) | with_reducible refine mm_wpX8_isOne (fun _ _ => ?_) | with_reducible refine mm_wpX8_counts (fun _ _ => ?_) | with_reducible refine mm_LX8_fine_22 (fun _ _ => ?_) _ _ _ _ _ _ _)
theorem mm_BX8_feed_47 {ln : Nat → Nat} {S : HC} {x0 : Nat} {x1 : Int32} {x2 : Int32} {x3 : Int32} {x4 : Int32} {t0 : Int32} {post post' : Int32 → HC → Prop} {K18 K18' : HC → Nat → Int32 → Int32 → Int32 → Int32 → Prop} (h_post : ∀ u0 u1, post u0 u1 → post' u0 u1) (h_K18 : ∀ u0 u1 u2 u3 u4 u5, K18 u0 u1 u2 u3 u4 u5 → K18' u0 u1 u2 u3 u4 u5) : BX8_feed_47 ln post K18 S x0 x1 x2 x3 x4 t0 → BX8_feed_47 ln post' K18' S x0 x1 x2 x3 x4 t0 := by
  unfold BX8_feed_47
  repeat' (first | with_reducible exact id | with_reducible exact h_post _ _ | with_reducible exact h_K18 _ _ _ _ _ _ | with_reducible refine m_lt (fun _ => ?_) | with_reducible refine m_dn (fun _ => ?_) | with_reducible refine m_as (fun _ => ?_) | with_reducible refine m_ne ?_)
theorem mm_LX8_feed_18 {ln : Nat → Nat} {post post' : Int32 → HC → Prop} (h_post : ∀ u0 u1, post u0 u1 → post' u0 u1) : ∀ n v0 v1 v2 v3 v4 v5, LX8_feed_18 ln post n v0 v1 v2 v3 v4 v5 → LX8_feed_18 ln post' n v0 v1 v2 v3 v4 v5 := by
  intro n
  induction n with
  | zero => intros; assumption
  | succ n ih =>
    intro v0 v1 v2 v3 v4 v5
    rw [LX8_feed_18, LX8_feed_18]
    dsimp only
    repeat' (first | with_reducible exact id | with_reducible exact h_post _ _ | with_reducible exact ih _ _ _ _ _ _ | with_reducible refine m_lt (fun _ => ?_) | with_reducible refine m_ite ?_ ?_ | with_reducible refine mm_BX8_feed_47 (fun _ _ => ?_) (fun _ _ _ _ _ _ => ?_))
theorem mm_wpX8_feed {ln : Nat → Nat} {S : HC} {a0 : Nat} {a1 : Int32} {a2 : Int32} {a3 : Int32} {post post' : Int32 → HC → Prop} (h_post : ∀ u0 u1, post u0 u1 → post' u0 u1) : wpX8_feed ln S a0 a1 a2 a3 post → wpX8_feed ln S a0 a1 a2 a3 post' := by
  unfold wpX8_feed
  repeat' (first | with_reducible exact id | with_reducible exact h_post _ _ | with_reducible refine m_lt (fun _ => ?_) | with_reducible refine m_ite ?_ ?_ | with_reducible refine m_ex (fun _ => ?_) | with_reducible refine mm_LX8_feed_18 (fun _ _ => ?_) _ _ _ _ _ _ _)
theorem mm_wpX8_trim {ln : Nat → Nat} {S : HC} {a0 : Nat} {a1 : Int32} {post post' : Int32 → HC → Prop} (h_post : ∀ u0 u1, post u0 u1 → post' u0 u1) : wpX8_trim ln S a0 a1 post → wpX8_trim ln S a0 a1 post' := by
  unfold wpX8_trim
  repeat' (first | with_reducible exact id | with_reducible exact h_post _ _ | with_reducible refine m_lt (fun _ => ?_) | with_reducible refine m_ite ?_ ?_ | with_reducible refine mm_wpX8_in (fun _ _ => ?_))
theorem mm_BX8_textTold_25 {ln : Nat → Nat} {S : HC} {post post' : Int32 → HC → Prop} (h_post : ∀ u0 u1, post u0 u1 → post' u0 u1) : BX8_textTold_25 ln post S → BX8_textTold_25 ln post' S := by
  unfold BX8_textTold_25
  repeat' (first | with_reducible exact id | with_reducible exact h_post _ _)
theorem mm_wpX8_textTold {ln : Nat → Nat} {S : HC} {a0 : Nat} {a1 : Int32} {a2 : Int32} {post post' : Int32 → HC → Prop} (h_post : ∀ u0 u1, post u0 u1 → post' u0 u1) : wpX8_textTold ln S a0 a1 a2 post → wpX8_textTold ln S a0 a1 a2 post' := by
  unfold wpX8_textTold
  repeat' (first | with_reducible exact id | with_reducible exact h_post _ _ | with_reducible refine m_lt (fun _ => ?_) | with_reducible refine m_dn (fun _ => ?_) | with_reducible refine m_al (fun _ => ?_) | with_reducible refine m_ne ?_ | with_reducible refine m_ite ?_ ?_ | with_reducible refine mm_wpX8_in (fun _ _ => ?_) | with_reducible refine mm_BX8_textTold_25 (fun _ _ => ?_))
theorem mm_wpX8_why {ln : Nat → Nat} {S : HC} {a0 : Nat} {a1 : Int32} {post post' : Int32 → HC → Prop} (h_post : ∀ u0 u1, post u0 u1 → post' u0 u1) : wpX8_why ln S a0 a1 post → wpX8_why ln S a0 a1 post' := by
  unfold wpX8_why
  repeat' (first | with_reducible exact id | with_reducible exact h_post _ _ | with_reducible refine m_ite ?_ ?_ | with_reducible refine mm_wpX8_in (fun _ _ => ?_) | with_reducible refine mm_wpX8_counts (fun _ _ => ?_))
theorem mm_LX8_sheet_66 {ln : Nat → Nat} {post post' : Int32 → HC → Prop} (h_post : ∀ u0 u1, post u0 u1 → post' u0 u1) : ∀ n v0 v1 v2 v3, LX8_sheet_66 ln post n v0 v1 v2 v3 → LX8_sheet_66 ln post' n v0 v1 v2 v3 := by
  intro n
  induction n with
  | zero => intros; assumption
  | succ n ih =>
    intro v0 v1 v2 v3
    rw [LX8_sheet_66, LX8_sheet_66]
    dsimp only
    repeat' (first | with_reducible exact id | with_reducible exact h_post _ _ | with_reducible exact ih _ _ _ _ | with_reducible refine m_lt (fun _ => ?_) | with_reducible refine m_dn (fun _ => ?_) | with_reducible refine m_al (fun _ => ?_) | with_reducible refine m_as (fun _ => ?_) | with_reducible refine m_ite ?_ ?_)
theorem mm_BX8_sheet_62 {ln : Nat → Nat} {S : HC} {x0 : Nat} {x1 : Int32} {t0 : Nat} {t1 : Int32} {t2 : Int32} {post post' : Int32 → HC → Prop} (h_post : ∀ u0 u1, post u0 u1 → post' u0 u1) : BX8_sheet_62 ln post S x0 x1 t0 t1 t2 → BX8_sheet_62 ln post' S x0 x1 t0 t1 t2 := by
  unfold BX8_sheet_62
  repeat' (first | with_reducible exact id | with_reducible exact h_post _ _ | with_reducible refine m_as (fun _ => ?_) | with_reducible refine m_ex (fun _ => ?_) | with_reducible refine mm_LX8_sheet_66 (fun _ _ => ?_) _ _ _ _ _)
theorem mm_BX8_sheet_41 {ln : Nat → Nat} {S : HC} {x0 : Nat} {x1 : Int32} {x2 : Int32} {x3 : Int32} {post post' : Int32 → HC → Prop} (h_post : ∀ u0 u1, post u0 u1 → post' u0 u1) : BX8_sheet_41 ln post S x0 x1 x2 x3 → BX8_sheet_41 ln post' S x0 x1 x2 x3 := by
  unfold BX8_sheet_41
  repeat' (first | with_reducible exact id | with_reducible exact h_post _ _ | with_reducible refine m_dn (fun _ => ?_) | with_reducible refine m_as (fun _ => ?_) | with_reducible refine m_ite ?_ ?_ | with_reducible refine mm_BX8_sheet_62 (fun _ _ => ?_))
theorem mm_BX8_sheet_29 {ln : Nat → Nat} {S : HC} {x0 : Nat} {x1 : Int32} {x2 : Int32} {x3 : Int32} {post post' : Int32 → HC → Prop} (h_post : ∀ u0 u1, post u0 u1 → post' u0 u1) : BX8_sheet_29 ln post S x0 x1 x2 x3 → BX8_sheet_29 ln post' S x0 x1 x2 x3 := by
  unfold BX8_sheet_29
  repeat' (first | with_reducible exact id | with_reducible exact h_post _ _ | with_reducible refine m_ite ?_ ?_ | with_reducible refine mm_BX8_sheet_41 (fun _ _ => ?_))
theorem mm_BX8_sheet_26 {ln : Nat → Nat} {S : HC} {post post' : Int32 → HC → Prop} (h_post : ∀ u0 u1, post u0 u1 → post' u0 u1) : BX8_sheet_26 ln post S → BX8_sheet_26 ln post' S := by
  unfold BX8_sheet_26
  repeat' (first | with_reducible exact id | with_reducible exact h_post _ _)
theorem mm_wpX8_sheet {ln : Nat → Nat} {S : HC} {a0 : Nat} {a1 : Int32} {a2 : Int32} {a3 : Int32} {post post' : Int32 → HC → Prop} (h_post : ∀ u0 u1, post u0 u1 → post' u0 u1) : wpX8_sheet ln S a0 a1 a2 a3 post → wpX8_sheet ln S a0 a1 a2 a3 post' := by
  unfold wpX8_sheet
  repeat' (first | with_reducible exact id | with_reducible exact h_post _ _ | with_reducible refine m_ite ?_ ?_ | with_reducible refine mm_wpX8_isSheet (fun _ _ => ?_) | with_reducible refine mm_BX8_sheet_26 (fun _ _ => ?_) | with_reducible refine mm_wpX8_in (fun _ _ => ?_) | with_reducible refine mm_BX8_sheet_29 (fun _ _ => ?_))
theorem mm_BX8_mark_117 {ln : Nat → Nat} {S : HC} {t0 : Nat} {t1 : Int32} {t2 : Int32} {post post' : Int32 → HC → Prop} (h_post : ∀ u0 u1, post u0 u1 → post' u0 u1) : BX8_mark_117 ln post S t0 t1 t2 → BX8_mark_117 ln post' S t0 t1 t2 := by
  unfold BX8_mark_117
  repeat' (first | with_reducible exact id | with_reducible exact h_post _ _ | with_reducible refine m_as (fun _ => ?_))
theorem mm_BX8_mark_92 {ln : Nat → Nat} {S : HC} {x0 : Nat} {x1 : Int32} {x2 : Int32} {x3 : Int32} {post post' : Int32 → HC → Prop} (h_post : ∀ u0 u1, post u0 u1 → post' u0 u1) : BX8_mark_92 ln post S x0 x1 x2 x3 → BX8_mark_92 ln post' S x0 x1 x2 x3 := by
  unfold BX8_mark_92
  repeat' (first | with_reducible exact id | with_reducible exact h_post _ _ | with_reducible refine m_lt (fun _ => ?_) | with_reducible refine m_dn (fun _ => ?_) | with_reducible refine m_al (fun _ => ?_) | with_reducible refine m_ite ?_ ?_ | with_reducible refine mm_BX8_mark_117 (fun _ _ => ?_))
theorem mm_BX8_mark_60 {ln : Nat → Nat} {S : HC} {x0 : Nat} {x1 : Int32} {x2 : Int32} {x3 : Int32} {post post' : Int32 → HC → Prop} (h_post : ∀ u0 u1, post u0 u1 → post' u0 u1) : BX8_mark_60 ln post S x0 x1 x2 x3 → BX8_mark_60 ln post' S x0 x1 x2 x3 := by
  unfold BX8_mark_60
  repeat' (first | with_reducible exact id | with_reducible exact h_post _ _ | with_reducible refine m_dn (fun _ => ?_) | with_reducible refine m_al (fun _ => ?_) | with_reducible refine m_ite ?_ ?_ | with_reducible refine mm_BX8_mark_92 (fun _ _ => ?_) | with_reducible refine mm_wpX8_in (fun _ _ => ?_))
theorem mm_wpX8_mark {ln : Nat → Nat} {S : HC} {a0 : Nat} {a1 : Int32} {a2 : Int32} {a3 : Int32} {post post' : Int32 → HC → Prop} (h_post : ∀ u0 u1, post u0 u1 → post' u0 u1) : wpX8_mark ln S a0 a1 a2 a3 post → wpX8_mark ln S a0 a1 a2 a3 post' := by
  unfold wpX8_mark
  repeat' (first | with_reducible exact id | with_reducible exact h_post _ _ | with_reducible refine m_lt (fun _ => ?_) | with_reducible refine m_dn (fun _ => ?_) | with_reducible refine m_al (fun _ => ?_) | with_reducible refine m_ite ?_ ?_ | with_reducible refine mm_wpX8_isSheet (fun _ _ => ?_) | with_reducible refine mm_wpX8_in (fun _ _ => ?_) | with_reducible refine mm_BX8_mark_60 (fun _ _ => ?_))
theorem mm_BX8_pour_118 {ln : Nat → Nat} {S : HC} {x2 : Int32} {post post' : Int32 → HC → Prop} (h_post : ∀ u0 u1, post u0 u1 → post' u0 u1) : BX8_pour_118 ln post S x2 → BX8_pour_118 ln post' S x2 := by
  unfold BX8_pour_118
  repeat' (first | with_reducible exact id | with_reducible exact h_post _ _)
theorem mm_BX8_pour_110 {ln : Nat → Nat} {S : HC} {x0 : Nat} {x1 : Int32} {x3 : Int32} {t0 : Int32} {t1 : Int32} {post post' : Int32 → HC → Prop} {K26 K26' : HC → Nat → Int32 → Int32 → Int32 → Prop} (h_post : ∀ u0 u1, post u0 u1 → post' u0 u1) (h_K26 : ∀ u0 u1 u2 u3 u4, K26 u0 u1 u2 u3 u4 → K26' u0 u1 u2 u3 u4) : BX8_pour_110 ln post K26 S x0 x1 x3 t0 t1 → BX8_pour_110 ln post' K26' S x0 x1 x3 t0 t1 := by
  unfold BX8_pour_110
  repeat' (first | with_reducible exact id | with_reducible exact h_post _ _ | with_reducible exact h_K26 _ _ _ _ _ | with_reducible refine m_lt (fun _ => ?_))
theorem mm_BX8_pour_83 {ln : Nat → Nat} {S : HC} {x0 : Nat} {x1 : Int32} {x2 : Int32} {x3 : Int32} {t0 : Int32} {post post' : Int32 → HC → Prop} {K26 K26' : HC → Nat → Int32 → Int32 → Int32 → Prop} (h_post : ∀ u0 u1, post u0 u1 → post' u0 u1) (h_K26 : ∀ u0 u1 u2 u3 u4, K26 u0 u1 u2 u3 u4 → K26' u0 u1 u2 u3 u4) : BX8_pour_83 ln post K26 S x0 x1 x2 x3 t0 → BX8_pour_83 ln post' K26' S x0 x1 x2 x3 t0 := by
  unfold BX8_pour_83
  repeat' (first | with_reducible exact id | with_reducible exact h_post _ _ | with_reducible exact h_K26 _ _ _ _ _ | with_reducible refine m_lt (fun _ => ?_) | with_reducible refine m_ite ?_ ?_ | with_reducible refine mm_wpX8_becomes (fun _ _ => ?_) | with_reducible refine mm_BX8_pour_110 (fun _ _ => ?_) (fun _ _ _ _ _ => ?_))
theorem mm_LX8_pour_26 {ln : Nat → Nat} {post post' : Int32 → HC → Prop} (h_post : ∀ u0 u1, post u0 u1 → post' u0 u1) : ∀ n v0 v1 v2 v3 v4, LX8_pour_26 ln post n v0 v1 v2 v3 v4 → LX8_pour_26 ln post' n v0 v1 v2 v3 v4 := by
  intro n
  induction n with
  | zero => intros; assumption
  | succ n ih =>
    intro v0 v1 v2 v3 v4
    rw [LX8_pour_26, LX8_pour_26]
    dsimp only
    repeat' (first | with_reducible exact id | with_reducible exact h_post _ _ | with_reducible exact ih _ _ _ _ _ | with_reducible refine m_lt (fun _ => ?_) | with_reducible refine m_dn (fun _ => ?_) | with_reducible refine m_al (fun _ => ?_) | with_reducible refine m_ite ?_ ?_ | with_reducible refine mm_BX8_pour_118 (fun _ _ => ?_) | with_reducible refine mm_wpX8_of (fun _ _ => ?_) | with_reducible refine mm_BX8_pour_83 (fun _ _ => ?_) (fun _ _ _ _ _ => ?_) | with_reducible refine mm_wpX8_within (fun _ _ => ?_))
theorem mm_wpX8_pour {ln : Nat → Nat} {S : HC} {a0 : Nat} {a1 : Int32} {post post' : Int32 → HC → Prop} (h_post : ∀ u0 u1, post u0 u1 → post' u0 u1) : wpX8_pour ln S a0 a1 post → wpX8_pour ln S a0 a1 post' := by
  unfold wpX8_pour
  repeat' (first | with_reducible exact id | with_reducible exact h_post _ _ | with_reducible refine m_dn (fun _ => ?_) | with_reducible refine m_al (fun _ => ?_) | with_reducible refine m_ite ?_ ?_ | with_reducible refine m_ex (fun _ => ?_) | with_reducible refine mm_wpX8_isSheet (fun _ _ => ?_) | with_reducible refine mm_LX8_pour_26 (fun _ _ => ?_) _ _ _ _ _ _)
theorem mm_BX8_reads_72 {ln : Nat → Nat} {S : HC} {x0 : Nat} {x1 : Int32} {x2 : Int32} {post post' : Int32 → HC → Prop} {K24 K24' : HC → Nat → Int32 → Int32 → Prop} (h_post : ∀ u0 u1, post u0 u1 → post' u0 u1) (h_K24 : ∀ u0 u1 u2 u3, K24 u0 u1 u2 u3 → K24' u0 u1 u2 u3) : BX8_reads_72 ln post K24 S x0 x1 x2 → BX8_reads_72 ln post' K24' S x0 x1 x2 := by
  unfold BX8_reads_72
  repeat' (first | with_reducible exact id | with_reducible exact h_post _ _ | with_reducible exact h_K24 _ _ _ _ | with_reducible refine m_lt (fun _ => ?_))
theorem mm_BX8_reads_70 {ln : Nat → Nat} {S : HC} {x2 : Int32} {post post' : Int32 → HC → Prop} {K24 K24' : HC → Nat → Int32 → Int32 → Prop} (h_post : ∀ u0 u1, post u0 u1 → post' u0 u1) (h_K24 : ∀ u0 u1 u2 u3, K24 u0 u1 u2 u3 → K24' u0 u1 u2 u3) : BX8_reads_70 ln post K24 S x2 → BX8_reads_70 ln post' K24' S x2 := by
  unfold BX8_reads_70
  repeat' (first | with_reducible exact id | with_reducible exact h_post _ _ | with_reducible exact h_K24 _ _ _ _)
theorem mm_LX8_reads_24 {ln : Nat → Nat} {post post' : Int32 → HC → Prop} (h_post : ∀ u0 u1, post u0 u1 → post' u0 u1) : ∀ n v0 v1 v2 v3, LX8_reads_24 ln post n v0 v1 v2 v3 → LX8_reads_24 ln post' n v0 v1 v2 v3 := by
  intro n
  induction n with
  | zero => intros; assumption
  | succ n ih =>
    intro v0 v1 v2 v3
    rw [LX8_reads_24, LX8_reads_24]
    dsimp only
    repeat' (first | with_reducible exact id | with_reducible exact h_post _ _ | with_reducible exact ih _ _ _ _ | with_reducible refine m_lt (fun _ => ?_) | with_reducible refine m_dn (fun _ => ?_) | with_reducible refine m_al (fun _ => ?_) | with_reducible refine m_ite ?_ ?_ | with_reducible refine mm_BX8_reads_72 (fun _ _ => ?_) (fun _ _ _ _ => ?_) | with_reducible refine mm_wpX8_isOne (fun _ _ => ?_) | with_reducible refine mm_BX8_reads_70 (fun _ _ => ?_) (fun _ _ _ _ => ?_) | with_reducible refine mm_wpX8_of (fun _ _ => ?_))
theorem mm_wpX8_reads {ln : Nat → Nat} {S : HC} {a0 : Nat} {a1 : Int32} {post post' : Int32 → HC → Prop} (h_post : ∀ u0 u1, post u0 u1 → post' u0 u1) : wpX8_reads ln S a0 a1 post → wpX8_reads ln S a0 a1 post' := by
  unfold wpX8_reads
  repeat' (first | with_reducible exact id | with_reducible exact h_post _ _ | with_reducible refine m_dn (fun _ => ?_) | with_reducible refine m_al (fun _ => ?_) | with_reducible refine m_ite ?_ ?_ | with_reducible refine m_ex (fun _ => ?_) | with_reducible refine mm_wpX8_isSheet (fun _ _ => ?_) | with_reducible refine mm_LX8_reads_24 (fun _ _ => ?_) _ _ _ _ _)
theorem mm_LX8_copy_141 {ln : Nat → Nat} {post post' : Int32 → HC → Prop} (h_post : ∀ u0 u1, post u0 u1 → post' u0 u1) : ∀ n v0 v1 v2 v3 v4 v5, LX8_copy_141 ln post n v0 v1 v2 v3 v4 v5 → LX8_copy_141 ln post' n v0 v1 v2 v3 v4 v5 := by
  intro n
  induction n with
  | zero => intros; assumption
  | succ n ih =>
    intro v0 v1 v2 v3 v4 v5
    rw [LX8_copy_141, LX8_copy_141]
    dsimp only
    repeat' (first | with_reducible exact id | with_reducible exact h_post _ _ | with_reducible exact ih _ _ _ _ _ _ | with_reducible refine m_lt (fun _ => ?_) | with_reducible refine m_dn (fun _ => ?_) | with_reducible refine m_al (fun _ => ?_) | with_reducible refine m_as (fun _ => ?_) | with_reducible refine m_ite ?_ ?_)
theorem mm_LX8_copy_104 {ln : Nat → Nat} {post post' : Int32 → HC → Prop} (h_post : ∀ u0 u1, post u0 u1 → post' u0 u1) : ∀ n v0 v1 v2 v3 v4 v5 v6 v7, LX8_copy_104 ln post n v0 v1 v2 v3 v4 v5 v6 v7 → LX8_copy_104 ln post' n v0 v1 v2 v3 v4 v5 v6 v7 := by
  intro n
  induction n with
  | zero => intros; assumption
  | succ n ih =>
    intro v0 v1 v2 v3 v4 v5 v6 v7
    rw [LX8_copy_104, LX8_copy_104]
    dsimp only
    repeat' (first | with_reducible exact id | with_reducible exact h_post _ _ | with_reducible exact ih _ _ _ _ _ _ _ _ | with_reducible refine m_lt (fun _ => ?_) | with_reducible refine m_dn (fun _ => ?_) | with_reducible refine m_al (fun _ => ?_) | with_reducible refine m_as (fun _ => ?_) | with_reducible refine m_ite ?_ ?_ | with_reducible refine m_ex (fun _ => ?_) | with_reducible refine mm_LX8_copy_141 (fun _ _ => ?_) _ _ _ _ _ _ _)
theorem mm_BX8_copy_97 {ln : Nat → Nat} {S : HC} {post post' : Int32 → HC → Prop} (h_post : ∀ u0 u1, post u0 u1 → post' u0 u1) : BX8_copy_97 ln post S → BX8_copy_97 ln post' S := by
  unfold BX8_copy_97
  repeat' (first | with_reducible exact id | with_reducible exact h_post _ _)
theorem mm_BX8_copy_35 {ln : Nat → Nat} {S : HC} {post post' : Int32 → HC → Prop} (h_post : ∀ u0 u1, post u0 u1 → post' u0 u1) : BX8_copy_35 ln post S → BX8_copy_35 ln post' S := by
  unfold BX8_copy_35
  repeat' (first | with_reducible exact id | with_reducible exact h_post _ _)
theorem mm_BX8_copy_14 {ln : Nat → Nat} {S : HC} {post post' : Int32 → HC → Prop} (h_post : ∀ u0 u1, post u0 u1 → post' u0 u1) : BX8_copy_14 ln post S → BX8_copy_14 ln post' S := by
  unfold BX8_copy_14
  repeat' (first | with_reducible exact id | with_reducible exact h_post _ _)
theorem mm_wpX8_copy {ln : Nat → Nat} {S : HC} {a0 : Nat} {a1 : Int32} {a2 : Int32} {a3 : Int32} {a4 : Int32} {a5 : Int32} {post post' : Int32 → HC → Prop} (h_post : ∀ u0 u1, post u0 u1 → post' u0 u1) : wpX8_copy ln S a0 a1 a2 a3 a4 a5 post → wpX8_copy ln S a0 a1 a2 a3 a4 a5 post' := by
  unfold wpX8_copy
  repeat' (first | with_reducible exact id | with_reducible exact h_post _ _ | with_reducible refine m_lt (fun _ => ?_) | with_reducible refine m_dn (fun _ => ?_) | with_reducible refine m_al (fun _ => ?_) | with_reducible refine m_ite ?_ ?_ | with_reducible refine m_ex (fun _ => ?_) | with_reducible refine mm_wpX8_isSheet (fun _ _ => ?_) | with_reducible refine mm_BX8_copy_14 (fun _ _ => ?_) | with_reducible refine mm_BX8_copy_35 (fun _ _ => ?_) | with_reducible refine mm_BX8_copy_97 (fun _ _ => ?_) | with_reducible refine mm_LX8_copy_104 (fun _ _ => ?_) _ _ _ _ _ _ _ _ _)
theorem mm_BX8_lay_176 {ln : Nat → Nat} {S : HC} {x4 : Int32} {post post' : Int32 → HC → Prop} (h_post : ∀ u0 u1, post u0 u1 → post' u0 u1) : BX8_lay_176 ln post S x4 → BX8_lay_176 ln post' S x4 := by
  unfold BX8_lay_176
  repeat' (first | with_reducible exact id | with_reducible exact h_post _ _)
theorem mm_LX8_lay_134 {ln : Nat → Nat} {post post' : Int32 → HC → Prop} (h_post : ∀ u0 u1, post u0 u1 → post' u0 u1) : ∀ n v0 v1 v2 v3 v4 v5 v6, LX8_lay_134 ln post n v0 v1 v2 v3 v4 v5 v6 → LX8_lay_134 ln post' n v0 v1 v2 v3 v4 v5 v6 := by
  intro n
  induction n with
  | zero => intros; assumption
  | succ n ih =>
    intro v0 v1 v2 v3 v4 v5 v6
    rw [LX8_lay_134, LX8_lay_134]
    dsimp only
    repeat' (first | with_reducible exact id | with_reducible exact h_post _ _ | with_reducible exact ih _ _ _ _ _ _ _ | with_reducible refine m_lt (fun _ => ?_) | with_reducible refine m_dn (fun _ => ?_) | with_reducible refine m_al (fun _ => ?_) | with_reducible refine m_as (fun _ => ?_) | with_reducible refine m_ite ?_ ?_ | with_reducible refine mm_BX8_lay_176 (fun _ _ => ?_))
theorem mm_BX8_lay_130 {ln : Nat → Nat} {S : HC} {x0 : Nat} {x1 : Int32} {x2 : Int32} {x3 : Int32} {x4 : Int32} {t0 : Nat} {t1 : Int32} {t2 : Int32} {post post' : Int32 → HC → Prop} (h_post : ∀ u0 u1, post u0 u1 → post' u0 u1) : BX8_lay_130 ln post S x0 x1 x2 x3 x4 t0 t1 t2 → BX8_lay_130 ln post' S x0 x1 x2 x3 x4 t0 t1 t2 := by
  unfold BX8_lay_130
  repeat' (first | with_reducible exact id | with_reducible exact h_post _ _ | with_reducible refine m_as (fun _ => ?_) | with_reducible refine m_ex (fun _ => ?_) | with_reducible refine mm_LX8_lay_134 (fun _ _ => ?_) _ _ _ _ _ _ _ _)
theorem mm_BX8_lay_110 {ln : Nat → Nat} {S : HC} {x0 : Nat} {x1 : Int32} {x2 : Int32} {x3 : Int32} {x4 : Int32} {t0 : Nat} {t1 : Int32} {t2 : Int32} {post post' : Int32 → HC → Prop} (h_post : ∀ u0 u1, post u0 u1 → post' u0 u1) : BX8_lay_110 ln post S x0 x1 x2 x3 x4 t0 t1 t2 → BX8_lay_110 ln post' S x0 x1 x2 x3 x4 t0 t1 t2 := by
  unfold BX8_lay_110
  repeat' (first | with_reducible exact id | with_reducible exact h_post _ _ | with_reducible refine m_dn (fun _ => ?_) | with_reducible refine m_as (fun _ => ?_) | with_reducible refine m_ite ?_ ?_ | with_reducible refine mm_wpX8_worthOf (fun _ _ => ?_) | with_reducible refine mm_BX8_lay_130 (fun _ _ => ?_))
theorem mm_BX8_lay_61 {ln : Nat → Nat} {S : HC} {x0 : Nat} {x1 : Int32} {x2 : Int32} {x3 : Int32} {post post' : Int32 → HC → Prop} (h_post : ∀ u0 u1, post u0 u1 → post' u0 u1) : BX8_lay_61 ln post S x0 x1 x2 x3 → BX8_lay_61 ln post' S x0 x1 x2 x3 := by
  unfold BX8_lay_61
  repeat' (first | with_reducible exact id | with_reducible exact h_post _ _ | with_reducible refine m_dn (fun _ => ?_) | with_reducible refine m_al (fun _ => ?_) | with_reducible refine m_as (fun _ => ?_) | with_reducible refine m_ite ?_ ?_ | with_reducible refine mm_wpX8_of (fun _ _ => ?_) | with_reducible refine mm_BX8_lay_110 (fun _ _ => ?_))
theorem mm_BX8_lay_44 {ln : Nat → Nat} {S : HC} {x0 : Nat} {x1 : Int32} {x2 : Int32} {x3 : Int32} {post post' : Int32 → HC → Prop} (h_post : ∀ u0 u1, post u0 u1 → post' u0 u1) : BX8_lay_44 ln post S x0 x1 x2 x3 → BX8_lay_44 ln post' S x0 x1 x2 x3 := by
  unfold BX8_lay_44
  repeat' (first | with_reducible exact id | with_reducible exact h_post _ _ | with_reducible refine m_dn (fun _ => ?_) | with_reducible refine m_al (fun _ => ?_) | with_reducible refine m_ite ?_ ?_ | with_reducible refine mm_BX8_lay_61 (fun _ _ => ?_))
theorem mm_BX8_lay_41 {ln : Nat → Nat} {S : HC} {post post' : Int32 → HC → Prop} (h_post : ∀ u0 u1, post u0 u1 → post' u0 u1) : BX8_lay_41 ln post S → BX8_lay_41 ln post' S := by
  unfold BX8_lay_41
  repeat' (first | with_reducible exact id | with_reducible exact h_post _ _)
theorem mm_BX8_lay_29 {ln : Nat → Nat} {S : HC} {x0 : Nat} {x1 : Int32} {x2 : Int32} {x3 : Int32} {post post' : Int32 → HC → Prop} (h_post : ∀ u0 u1, post u0 u1 → post' u0 u1) : BX8_lay_29 ln post S x0 x1 x2 x3 → BX8_lay_29 ln post' S x0 x1 x2 x3 := by
  unfold BX8_lay_29
  repeat' (first | with_reducible exact id | with_reducible exact h_post _ _ | with_reducible refine m_ite ?_ ?_ | with_reducible refine mm_wpX8_isSheet (fun _ _ => ?_) | with_reducible refine mm_BX8_lay_41 (fun _ _ => ?_) | with_reducible refine mm_BX8_lay_44 (fun _ _ => ?_))
theorem mm_wpX8_lay {ln : Nat → Nat} {S : HC} {a0 : Nat} {a1 : Int32} {a2 : Int32} {a3 : Int32} {post post' : Int32 → HC → Prop} (h_post : ∀ u0 u1, post u0 u1 → post' u0 u1) : wpX8_lay ln S a0 a1 a2 a3 post → wpX8_lay ln S a0 a1 a2 a3 post' := by
  unfold wpX8_lay
  repeat' (first | with_reducible exact id | with_reducible exact h_post _ _ | with_reducible refine m_ite ?_ ?_ | with_reducible refine mm_wpX8_isSlot (fun _ _ => ?_) | with_reducible refine mm_BX8_lay_41 (fun _ _ => ?_) | with_reducible refine mm_wpX8_in (fun _ _ => ?_) | with_reducible refine mm_wpX8_isOne (fun _ _ => ?_) | with_reducible refine mm_BX8_lay_29 (fun _ _ => ?_))
theorem mm_BX8_ask_63 {ln : Nat → Nat} {S : HC} {post post' : Int32 → HC → Prop} (h_post : ∀ u0 u1, post u0 u1 → post' u0 u1) : BX8_ask_63 ln post S → BX8_ask_63 ln post' S := by
  unfold BX8_ask_63
  repeat' (first | with_reducible exact id | with_reducible exact h_post _ _)
theorem mm_BX8_ask_16 {ln : Nat → Nat} {S : HC} {post post' : Int32 → HC → Prop} (h_post : ∀ u0 u1, post u0 u1 → post' u0 u1) : BX8_ask_16 ln post S → BX8_ask_16 ln post' S := by
  unfold BX8_ask_16
  repeat' (first | with_reducible exact id | with_reducible exact h_post _ _)
theorem mm_wpX8_ask {ln : Nat → Nat} {S : HC} {a0 : Nat} {a1 : Int32} {a2 : Int32} {post post' : Int32 → HC → Prop} (h_post : ∀ u0 u1, post u0 u1 → post' u0 u1) : wpX8_ask ln S a0 a1 a2 post → wpX8_ask ln S a0 a1 a2 post' := by
  unfold wpX8_ask
  repeat' (first | with_reducible exact id | with_reducible exact h_post _ _ | with_reducible refine m_dn (fun _ => ?_) | with_reducible refine m_al (fun _ => ?_) | with_reducible refine m_ite ?_ ?_ | with_reducible refine mm_wpX8_isSlot (fun _ _ => ?_) | with_reducible refine mm_BX8_ask_16 (fun _ _ => ?_) | with_reducible refine mm_wpX8_in (fun _ _ => ?_) | with_reducible refine mm_wpX8_isUnder (fun _ _ => ?_) | with_reducible refine mm_BX8_ask_63 (fun _ _ => ?_))
theorem mm_wpX8_item {ln : Nat → Nat} {S : HC} {a0 : Nat} {a1 : Int32} {a2 : Int32} {post post' : Int32 → HC → Prop} (h_post : ∀ u0 u1, post u0 u1 → post' u0 u1) : wpX8_item ln S a0 a1 a2 post → wpX8_item ln S a0 a1 a2 post' := by
  unfold wpX8_item
  repeat' (first | with_reducible exact id | with_reducible exact h_post _ _ | with_reducible refine m_lt (fun _ => ?_) | with_reducible refine m_dn (fun _ => ?_) | with_reducible refine m_al (fun _ => ?_) | with_reducible refine m_ite ?_ ?_ | with_reducible refine mm_wpX8_isSlot (fun _ _ => ?_) | with_reducible refine mm_wpX8_in (fun _ _ => ?_))
theorem mm_wpX8_rest {ln : Nat → Nat} {S : HC} {a0 : Nat} {a1 : Int32} {a2 : Int32} {post post' : Int32 → HC → Prop} (h_post : ∀ u0 u1, post u0 u1 → post' u0 u1) : wpX8_rest ln S a0 a1 a2 post → wpX8_rest ln S a0 a1 a2 post' := by
  unfold wpX8_rest
  repeat' (first | with_reducible exact id | with_reducible exact h_post _ _ | with_reducible refine m_lt (fun _ => ?_) | with_reducible refine m_dn (fun _ => ?_) | with_reducible refine m_al (fun _ => ?_) | with_reducible refine m_ne ?_ | with_reducible refine m_ite ?_ ?_ | with_reducible refine mm_wpX8_isSlot (fun _ _ => ?_))
theorem mm_wpX8_tell {ln : Nat → Nat} {S : HC} {a0 : Nat} {a1 : Int32} {post post' : Int32 → HC → Prop} (h_post : ∀ u0 u1, post u0 u1 → post' u0 u1) : wpX8_tell ln S a0 a1 post → wpX8_tell ln S a0 a1 post' := by
  unfold wpX8_tell
  repeat' (first | with_reducible exact id | with_reducible exact h_post _ _ | with_reducible refine m_lt (fun _ => ?_) | with_reducible refine m_dn (fun _ => ?_) | with_reducible refine m_as (fun _ => ?_) | with_reducible refine m_ite ?_ ?_)
theorem mm_BX8_check_208 {ln : Nat → Nat} {S : HC} {x4 : Int32} {post post' : Int32 → HC → Prop} (h_post : ∀ u0 u1, post u0 u1 → post' u0 u1) : BX8_check_208 ln post S x4 → BX8_check_208 ln post' S x4 := by
  unfold BX8_check_208
  repeat' (first | with_reducible exact id | with_reducible exact h_post _ _ | with_reducible refine m_lt (fun _ => ?_))
theorem mm_BX8_check_181 {ln : Nat → Nat} {S : HC} {x0 : Nat} {x2 : Int32} {x3 : Int32} {x4 : Int32} {post post' : Int32 → HC → Prop} (h_post : ∀ u0 u1, post u0 u1 → post' u0 u1) : BX8_check_181 ln post S x0 x2 x3 x4 → BX8_check_181 ln post' S x0 x2 x3 x4 := by
  unfold BX8_check_181
  repeat' (first | with_reducible exact id | with_reducible exact h_post _ _ | with_reducible refine m_dn (fun _ => ?_) | with_reducible refine m_ite ?_ ?_ | with_reducible refine mm_wpX8_copyAll (fun _ => ?_) | with_reducible refine mm_BX8_check_208 (fun _ _ => ?_))
theorem mm_BX8_check_172 {ln : Nat → Nat} {S : HC} {x0 : Nat} {x2 : Int32} {x3 : Int32} {x5 : Int32} {t0 : Int32} {t1 : Int32} {post post' : Int32 → HC → Prop} {K80 K80' : HC → Nat → Int32 → Int32 → Int32 → Int32 → Prop} (h_post : ∀ u0 u1, post u0 u1 → post' u0 u1) (h_K80 : ∀ u0 u1 u2 u3 u4 u5, K80 u0 u1 u2 u3 u4 u5 → K80' u0 u1 u2 u3 u4 u5) : BX8_check_172 ln post K80 S x0 x2 x3 x5 t0 t1 → BX8_check_172 ln post' K80' S x0 x2 x3 x5 t0 t1 := by
  unfold BX8_check_172
  repeat' (first | with_reducible exact id | with_reducible exact h_post _ _ | with_reducible exact h_K80 _ _ _ _ _ _ | with_reducible refine m_lt (fun _ => ?_))
theorem mm_BX8_check_171 {ln : Nat → Nat} {S : HC} {x0 : Nat} {x2 : Int32} {x3 : Int32} {x5 : Int32} {t0 : Int32} {post post' : Int32 → HC → Prop} {K80 K80' : HC → Nat → Int32 → Int32 → Int32 → Int32 → Prop} (h_post : ∀ u0 u1, post u0 u1 → post' u0 u1) (h_K80 : ∀ u0 u1 u2 u3 u4 u5, K80 u0 u1 u2 u3 u4 u5 → K80' u0 u1 u2 u3 u4 u5) : BX8_check_171 ln post K80 S x0 x2 x3 x5 t0 → BX8_check_171 ln post' K80' S x0 x2 x3 x5 t0 := by
  unfold BX8_check_171
  repeat' (first | with_reducible exact id | with_reducible exact h_post _ _ | with_reducible exact h_K80 _ _ _ _ _ _ | with_reducible refine mm_BX8_check_172 (fun _ _ => ?_) (fun _ _ _ _ _ _ => ?_))
theorem mm_BX8_check_130 {ln : Nat → Nat} {S : HC} {x0 : Nat} {x2 : Int32} {x3 : Int32} {x5 : Int32} {t0 : Int32} {t1 : Int32} {post post' : Int32 → HC → Prop} {K80 K80' : HC → Nat → Int32 → Int32 → Int32 → Int32 → Prop} (h_post : ∀ u0 u1, post u0 u1 → post' u0 u1) (h_K80 : ∀ u0 u1 u2 u3 u4 u5, K80 u0 u1 u2 u3 u4 u5 → K80' u0 u1 u2 u3 u4 u5) : BX8_check_130 ln post K80 S x0 x2 x3 x5 t0 t1 → BX8_check_130 ln post' K80' S x0 x2 x3 x5 t0 t1 := by
  unfold BX8_check_130
  repeat' (first | with_reducible exact id | with_reducible exact h_post _ _ | with_reducible exact h_K80 _ _ _ _ _ _ | with_reducible refine m_lt (fun _ => ?_) | with_reducible refine m_dn (fun _ => ?_) | with_reducible refine m_al (fun _ => ?_) | with_reducible refine m_ite ?_ ?_ | with_reducible refine mm_BX8_check_171 (fun _ _ => ?_) (fun _ _ _ _ _ _ => ?_) | with_reducible refine mm_wpX8_allBear (fun _ _ => ?_) | with_reducible refine mm_BX8_check_172 (fun _ _ => ?_) (fun _ _ _ _ _ _ => ?_))
theorem mm_BX8_check_129 {ln : Nat → Nat} {S : HC} {x0 : Nat} {x2 : Int32} {x3 : Int32} {x5 : Int32} {t0 : Int32} {post post' : Int32 → HC → Prop} {K80 K80' : HC → Nat → Int32 → Int32 → Int32 → Int32 → Prop} (h_post : ∀ u0 u1, post u0 u1 → post' u0 u1) (h_K80 : ∀ u0 u1 u2 u3 u4 u5, K80 u0 u1 u2 u3 u4 u5 → K80' u0 u1 u2 u3 u4 u5) : BX8_check_129 ln post K80 S x0 x2 x3 x5 t0 → BX8_check_129 ln post' K80' S x0 x2 x3 x5 t0 := by
  unfold BX8_check_129
  repeat' (first | with_reducible exact id | with_reducible exact h_post _ _ | with_reducible exact h_K80 _ _ _ _ _ _ | with_reducible refine mm_BX8_check_130 (fun _ _ => ?_) (fun _ _ _ _ _ _ => ?_))
theorem mm_LX8_check_80 {ln : Nat → Nat} {post post' : Int32 → HC → Prop} (h_post : ∀ u0 u1, post u0 u1 → post' u0 u1) : ∀ n v0 v1 v2 v3 v4 v5, LX8_check_80 ln post n v0 v1 v2 v3 v4 v5 → LX8_check_80 ln post' n v0 v1 v2 v3 v4 v5 := by
  intro n
  induction n with
  | zero => intros; assumption
  | succ n ih =>
    intro v0 v1 v2 v3 v4 v5
    rw [LX8_check_80, LX8_check_80]
    dsimp only
    repeat' (first | with_reducible exact id | with_reducible exact h_post _ _ | with_reducible exact ih _ _ _ _ _ _ | with_reducible refine m_lt (fun _ => ?_) | with_reducible refine m_dn (fun _ => ?_) | with_reducible refine m_al (fun _ => ?_) | with_reducible refine m_ite ?_ ?_ | with_reducible refine mm_BX8_check_181 (fun _ _ => ?_) | with_reducible refine mm_wpX8_year (fun _ => ?_) | with_reducible refine mm_BX8_check_129 (fun _ _ => ?_) (fun _ _ _ _ _ _ => ?_) | with_reducible refine mm_BX8_check_130 (fun _ _ => ?_) (fun _ _ _ _ _ _ => ?_))
theorem mm_wpX8_check {ln : Nat → Nat} {S : HC} {a0 : Nat} {a1 : Int32} {post post' : Int32 → HC → Prop} (h_post : ∀ u0 u1, post u0 u1 → post' u0 u1) : wpX8_check ln S a0 a1 post → wpX8_check ln S a0 a1 post' := by
  unfold wpX8_check
  repeat' (first | with_reducible exact id | with_reducible exact h_post _ _ | with_reducible refine m_lt (fun _ => ?_) | with_reducible refine m_dn (fun _ => ?_) | with_reducible refine m_al (fun _ => ?_) | with_reducible refine m_ite ?_ ?_ | with_reducible refine m_ex (fun _ => ?_) | with_reducible refine mm_wpX8_in (fun _ _ => ?_) | with_reducible refine mm_wpX8_copyAll (fun _ => ?_) | with_reducible refine mm_wpX8_within (fun _ _ => ?_) | with_reducible refine mm_LX8_check_80 (fun _ _ => ?_) _ _ _ _ _ _ _)
theorem mm_wpX8_keep {ln : Nat → Nat} {S : HC} {a0 : Nat} {post post' : Int32 → HC → Prop} (h_post : ∀ u0 u1, post u0 u1 → post' u0 u1) : wpX8_keep ln S a0 post → wpX8_keep ln S a0 post' := by
  unfold wpX8_keep
  repeat' (first | with_reducible exact id | with_reducible exact h_post _ _ | with_reducible refine m_lt (fun _ => ?_) | with_reducible refine m_dn (fun _ => ?_) | with_reducible refine m_al (fun _ => ?_) | with_reducible refine mm_wpX8_copyAll (fun _ => ?_))
theorem mm_wpX8_back {ln : Nat → Nat} {S : HC} {a0 : Nat} {post post' : Int32 → HC → Prop} (h_post : ∀ u0 u1, post u0 u1 → post' u0 u1) : wpX8_back ln S a0 post → wpX8_back ln S a0 post' := by
  unfold wpX8_back
  repeat' (first | with_reducible exact id | with_reducible exact h_post _ _ | with_reducible refine m_lt (fun _ => ?_) | with_reducible refine m_dn (fun _ => ?_) | with_reducible refine m_al (fun _ => ?_) | with_reducible refine m_ite ?_ ?_ | with_reducible refine mm_wpX8_copyAll (fun _ => ?_))
theorem mm_BX8_founders_29 {ln : Nat → Nat} {S : HC} {x0 : Nat} {x2 : Int32} {t0 : Int32} {t1 : Int32} {post post' : Int32 → HC → Prop} {K4 K4' : HC → Nat → Int32 → Int32 → Prop} (h_post : ∀ u0 u1, post u0 u1 → post' u0 u1) (h_K4 : ∀ u0 u1 u2 u3, K4 u0 u1 u2 u3 → K4' u0 u1 u2 u3) : BX8_founders_29 ln post K4 S x0 x2 t0 t1 → BX8_founders_29 ln post' K4' S x0 x2 t0 t1 := by
  unfold BX8_founders_29
  repeat' (first | with_reducible exact id | with_reducible exact h_post _ _ | with_reducible exact h_K4 _ _ _ _ | with_reducible refine m_lt (fun _ => ?_))
theorem mm_LX8_founders_4 {ln : Nat → Nat} {post post' : Int32 → HC → Prop} (h_post : ∀ u0 u1, post u0 u1 → post' u0 u1) : ∀ n v0 v1 v2 v3, LX8_founders_4 ln post n v0 v1 v2 v3 → LX8_founders_4 ln post' n v0 v1 v2 v3 := by
  intro n
  induction n with
  | zero => intros; assumption
  | succ n ih =>
    intro v0 v1 v2 v3
    rw [LX8_founders_4, LX8_founders_4]
    dsimp only
    repeat' (first | with_reducible exact id | with_reducible exact h_post _ _ | with_reducible exact ih _ _ _ _ | with_reducible refine m_dn (fun _ => ?_) | with_reducible refine m_al (fun _ => ?_) | with_reducible refine m_ite ?_ ?_ | with_reducible refine mm_wpX8_of (fun _ _ => ?_) | with_reducible refine mm_BX8_founders_29 (fun _ _ => ?_) (fun _ _ _ _ => ?_))
theorem mm_wpX8_founders {ln : Nat → Nat} {S : HC} {a0 : Nat} {post post' : Int32 → HC → Prop} (h_post : ∀ u0 u1, post u0 u1 → post' u0 u1) : wpX8_founders ln S a0 post → wpX8_founders ln S a0 post' := by
  unfold wpX8_founders
  repeat' (first | with_reducible exact id | with_reducible exact h_post _ _ | with_reducible refine m_ex (fun _ => ?_) | with_reducible refine mm_LX8_founders_4 (fun _ _ => ?_) _ _ _ _ _)
theorem mm_wpX8_count {ln : Nat → Nat} {S : HC} {a0 : Nat} {a1 : Int32} {post post' : Int32 → HC → Prop} (h_post : ∀ u0 u1, post u0 u1 → post' u0 u1) : wpX8_count ln S a0 a1 post → wpX8_count ln S a0 a1 post' := by
  unfold wpX8_count
  repeat' (first | with_reducible exact id | with_reducible exact h_post _ _ | with_reducible refine m_lt (fun _ => ?_) | with_reducible refine m_dn (fun _ => ?_) | with_reducible refine m_al (fun _ => ?_) | with_reducible refine m_ite ?_ ?_ | with_reducible refine mm_wpX8_founders (fun _ _ => ?_))
