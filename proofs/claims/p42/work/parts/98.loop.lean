/-! the loop of the law (printed by a program) -/
theorem lw_sub {L i : Nat} (hL : L ≤ 3072) (h : 6 * i + 6 ≤ L) : ¬ nI L - 6 < nI (6 * i) := by
  rw [show nI L - 6 = nI (L - 6) from pk_sub (b := 6) (by omega)]
  exact nI_nlt (by omega) (by omega)
theorem lw_end {L i : Nat} (hL : L ≤ 3072) (hi : i ≤ 1000) (h : ¬ 6 * i + 6 ≤ L) : nI L - 6 < nI (6 * i) := by
  rw [i_lt, show (nI L - 6).toInt = (L : Int) - 6 from pk_sub_toInt (a := L) (b := 6) (by omega) (by decide), nI_toInt (by omega)]
  omega
set_option maxHeartbeats 4000000 in
set_option maxRecDepth 100000 in
theorem lw_step {L : Nat} {xs : Nat → Int32} {n i M : Nat} {ln : Nat → Nat} {S : HC} (hL : L ≤ 3072) (h : PI M ln S) (hi : 6 * i + 6 ≤ L) (k : ∀ M ln S, PI M ln S → LL_law_18 L xs n M ln S 0 68 (nI (6 * (i + 1)))) : LL_law_18 L xs (n + 1) M ln S 0 68 (nI (6 * i)) := by
  rw [LL_law_18]
  dsimp only
  have a0 : ∀ {K : Int32 → Prop}, al_ L (nI (6 * i)) xs K = K (xs (6 * i)) := fun {K} => al_e (by omega) (by omega)
  have a1 : ∀ {K : Int32 → Prop}, al_ L (nI (6 * i + 1)) xs K = K (xs (6 * i + 1)) := fun {K} => al_e (by omega) (by omega)
  have a2 : ∀ {K : Int32 → Prop}, al_ L (nI (6 * i + 2)) xs K = K (xs (6 * i + 2)) := fun {K} => al_e (by omega) (by omega)
  have a3 : ∀ {K : Int32 → Prop}, al_ L (nI (6 * i + 3)) xs K = K (xs (6 * i + 3)) := fun {K} => al_e (by omega) (by omega)
  have a4 : ∀ {K : Int32 → Prop}, al_ L (nI (6 * i + 4)) xs K = K (xs (6 * i + 4)) := fun {K} => al_e (by omega) (by omega)
  have a5 : ∀ {K : Int32 → Prop}, al_ L (nI (6 * i + 5)) xs K = K (xs (6 * i + 5)) := fun {K} => al_e (by omega) (by omega)
  have p1 : nI (6 * i) + 1 = nI (6 * i + 1) := nI_add _ 1
  have p2 : nI (6 * i) + 2 = nI (6 * i + 2) := nI_add _ 2
  have p3 : nI (6 * i) + 3 = nI (6 * i + 3) := nI_add _ 3
  have p4 : nI (6 * i) + 4 = nI (6 * i + 4) := nI_add _ 4
  have p5 : nI (6 * i) + 5 = nI (6 * i + 5) := nI_add _ 5
  have p6 : nI (6 * i) + 6 = nI (6 * (i + 1)) := nI_add _ 6
  have fin : ∀ {v w : Int32} {S2 : HC}, OK M ln v w S2 → (if v = w then LL_law_18 L xs n M ln S2 0 68 (nI (6 * (i + 1))) else False) := fun H => by rw [if_pos H.1]; exact k _ _ _ H.2
  simp only [lt_e, BL_law_1425, p1, p2, p3, p4, p5, p6, a0, a1, a2, a3, a4, a5]
  rw [if_neg (lw_sub hL hi)]
  refine if_c (fun _ => ?_) (fun _ => ?_)
  · exact mm_wpX7_person (fun v S1 H1 => mm_wpX8_person (fun w S2 H2 => k _ _ _ H2.2) H1) (s_person h _ _ _ _ _)
  refine if_c (fun _ => ?_) (fun _ => ?_)
  · exact mm_wpX7_told (fun v S1 H1 => mm_wpX8_told (fun w S2 H2 => k _ _ _ H2.2) H1) (s_told h _ _)
  refine if_c (fun _ => ?_) (fun _ => ?_)
  · exact mm_wpX7_bears (fun v S1 H1 => mm_wpX8_bears (fun w S2 H2 => k _ _ _ H2.2) H1) (s_bears h _ _)
  refine if_c (fun _ => ?_) (fun _ => ?_)
  · exact mm_wpX7_as (fun v S1 H1 => mm_wpX8_as (fun w S2 H2 => k _ _ _ H2.2) H1) (s_as h _ _)
  refine if_c (fun _ => ?_) (fun _ => ?_)
  · exact mm_wpX7_turns (fun v S1 H1 => mm_wpX8_turns (fun w S2 H2 => k _ _ _ H2.2) H1) (s_turns h _ _)
  refine if_c (fun _ => ?_) (fun _ => ?_)
  · exact mm_wpX7_set (fun v S1 H1 => mm_wpX8_set (fun w S2 H2 => k _ _ _ H2.2) H1) (s_set h _ _ _)
  refine if_c (fun _ => ?_) (fun _ => ?_)
  · exact mm_wpX7_fertile (fun v S1 H1 => mm_wpX8_fertile (fun w S2 H2 => k _ _ _ H2.2) H1) (s_fertile h _)
  refine if_c (fun _ => ?_) (fun _ => ?_)
  · exact mm_wpX7_deal (fun v S1 H1 => mm_wpX8_deal (fun w S2 H2 => k _ _ _ H2.2) H1) (s_deal h _)
  refine if_c (fun _ => ?_) (fun _ => ?_)
  · exact mm_wpX7_seed (fun v S1 H1 => mm_wpX8_seed (fun w S2 H2 => k _ _ _ H2.2) H1) (s_seed h _)
  refine if_c (fun _ => ?_) (fun _ => ?_)
  · exact mm_wpX7_years (fun v S1 H1 => mm_wpX8_years (fun w S2 H2 => k _ _ _ H2.2) H1) (s_years h _)
  refine if_c (fun _ => ?_) (fun _ => ?_)
  · exact mm_wpX7_alike (fun v S1 H1 => mm_wpX8_alike (fun w S2 H2 => k _ _ _ H2.2) H1) (s_alike h _ _)
  refine if_c (fun _ => ?_) (fun _ => ?_)
  · exact mm_wpX7_land (fun v S1 H1 => mm_wpX8_land (fun w S2 H2 => k _ _ _ H2.2) H1) (s_land h _)
  refine if_c (fun _ => ?_) (fun _ => ?_)
  · exact mm_wpX7_sixteenth (fun v S1 H1 => mm_wpX8_sixteenth (fun w S2 H2 => k _ _ _ H2.2) H1) (s_sixteenth h _)
  refine if_c (fun _ => ?_) (fun _ => ?_)
  · exact mm_wpX7_from (fun v S1 H1 => mm_wpX8_from (fun w S2 H2 => k _ _ _ H2.2) H1) (s_from h _ _)
  refine if_c (fun _ => ?_) (fun _ => ?_)
  · exact mm_wpX7_match (fun v S1 H1 => mm_wpX8_match (fun w S2 H2 => k _ _ _ H2.2) H1) (s_match h _ _ _)
  refine if_c (fun _ => ?_) (fun _ => ?_)
  · exact mm_wpX7_repaint (fun v S1 H1 => mm_wpX8_repaint (fun w S2 H2 => k _ _ _ H2.2) H1) (s_repaint h)
  refine if_c (fun _ => ?_) (fun _ => ?_)
  · exact mm_wpX7_behind (fun v S1 H1 => mm_wpX8_behind (fun w S2 H2 => k _ _ _ H2.2) H1) (s_behind h _ _)
  refine if_c (fun _ => ?_) (fun _ => ?_)
  · exact mm_wpX7_born (fun v S1 H1 => mm_wpX8_born (fun w S2 H2 => k _ _ _ H2.2) H1) (s_born h)
  refine if_c (fun _ => ?_) (fun _ => ?_)
  · exact mm_wpX7_gone (fun v S1 H1 => mm_wpX8_gone (fun w S2 H2 => k _ _ _ H2.2) H1) (s_gone h _ _)
  refine if_c (fun _ => ?_) (fun _ => ?_)
  · exact mm_wpX7_spoon (fun v S1 H1 => mm_wpX8_spoon (fun w S2 H2 => k _ _ _ H2.1) H1) (s_spoonW h _ _)
  refine if_c (fun _ => ?_) (fun _ => ?_)
  · exact mm_wpX7_fee (fun v S1 H1 => mm_wpX8_fee (fun w S2 H2 => k _ _ _ H2.2) H1) (s_fee h)
  refine if_c (fun _ => ?_) (fun _ => ?_)
  · exact mm_wpX7_fine (fun v S1 H1 => mm_wpX8_fine (fun w S2 H2 => k _ _ _ H2.2) H1) (s_fine h _)
  refine if_c (fun _ => ?_) (fun _ => ?_)
  · exact mm_wpX7_feed (fun v S1 H1 => mm_wpX8_feed (fun w S2 H2 => k _ _ _ H2.2) H1) (s_feed h _ _ _)
  refine if_c (fun _ => ?_) (fun _ => ?_)
  · exact mm_wpX7_trim (fun v S1 H1 => mm_wpX8_trim (fun w S2 H2 => k _ _ _ H2.2) H1) (s_trim h _)
  refine if_c (fun _ => ?_) (fun _ => ?_)
  · exact s_text h (fun v N2 ln2 S2 H => k _ _ _ H)
  refine if_c (fun _ => ?_) (fun _ => ?_)
  · exact mm_wpX7_textTold (fun v S1 H1 => mm_wpX8_textTold (fun w S2 H2 => k _ _ _ H2.2) H1) (s_textTold h _ _)
  refine if_c (fun _ => ?_) (fun _ => ?_)
  · exact mm_wpX7_why (fun v S1 H1 => mm_wpX8_why (fun w S2 H2 => k _ _ _ H2.2) H1) (s_why h _)
  refine if_c (fun _ => ?_) (fun _ => ?_)
  · exact mm_wpX7_sheet (fun v S1 H1 => mm_wpX8_sheet (fun w S2 H2 => k _ _ _ H2.2) H1) (s_sheet h _ _ _)
  refine if_c (fun _ => ?_) (fun _ => ?_)
  · exact mm_wpX7_mark (fun v S1 H1 => mm_wpX8_mark (fun w S2 H2 => k _ _ _ H2.2) H1) (s_mark h _ _ _)
  refine if_c (fun _ => ?_) (fun _ => ?_)
  · exact mm_wpX7_pour (fun v S1 H1 => mm_wpX8_pour (fun w S2 H2 => k _ _ _ H2.2) H1) (s_pour h _)
  refine if_c (fun _ => ?_) (fun _ => ?_)
  · exact mm_wpX7_reads (fun v S1 H1 => mm_wpX8_reads (fun w S2 H2 => k _ _ _ H2.2) H1) (s_reads h _)
  refine if_c (fun _ => ?_) (fun _ => ?_)
  · exact mm_wpX7_copy (fun v S1 H1 => mm_wpX8_copy (fun w S2 H2 => k _ _ _ H2.2) H1) (s_copy h _ _ _ _ _)
  refine if_c (fun _ => ?_) (fun _ => ?_)
  · exact mm_wpX7_lay (fun v S1 H1 => mm_wpX8_lay (fun w S2 H2 => k _ _ _ H2.2) H1) (s_lay h _ _ _)
  refine if_c (fun _ => ?_) (fun _ => ?_)
  · exact mm_wpX7_ask (fun v S1 H1 => mm_wpX8_ask (fun w S2 H2 => k _ _ _ H2.2) H1) (s_ask h _ _)
  refine if_c (fun _ => ?_) (fun _ => ?_)
  · exact mm_wpX7_item (fun v S1 H1 => mm_wpX8_item (fun w S2 H2 => k _ _ _ H2.2) H1) (s_item h _ _)
  refine if_c (fun _ => ?_) (fun _ => ?_)
  · exact mm_wpX7_rest (fun v S1 H1 => mm_wpX8_rest (fun w S2 H2 => k _ _ _ H2.2) H1) (s_rest h _ _)
  refine if_c (fun _ => ?_) (fun _ => ?_)
  · exact mm_wpX7_tell (fun v S1 H1 => mm_wpX8_tell (fun w S2 H2 => k _ _ _ H2.2) H1) (s_tell h _)
  refine if_c (fun _ => ?_) (fun _ => ?_)
  · exact mm_wpX7_check (fun v S1 H1 => mm_wpX8_check (fun w S2 H2 => k _ _ _ H2.2) H1) (s_check h _)
  refine if_c (fun _ => ?_) (fun _ => ?_)
  · exact mm_wpX7_keep (fun v S1 H1 => mm_wpX8_keep (fun w S2 H2 => k _ _ _ H2.2) H1) (s_keep h)
  refine if_c (fun _ => ?_) (fun _ => ?_)
  · exact mm_wpX7_back (fun v S1 H1 => mm_wpX8_back (fun w S2 H2 => k _ _ _ H2.2) H1) (s_back h)
  refine if_c (fun _ => ?_) (fun _ => ?_)
  · exact mm_wpX7_count (fun v S1 H1 => mm_wpX8_count (fun w S2 H2 => fin H2) H1) (s_count h _)
  exact k _ _ _ h
theorem lw_loop {L : Nat} {xs : Nat → Int32} (hL : L ≤ 3072) : ∀ (n i M : Nat) (ln : Nat → Nat) (S : HC), L < 6 * i + 6 * n → i + n ≤ 1001 → 6 * i ≤ L → PI M ln S → LL_law_18 L xs n M ln S 0 68 (nI (6 * i)) := by
  intro n
  induction n with
  | zero =>
    intro i M ln S h1 h2 h3 h
    omega
  | succ n ih =>
    intro i M ln S h1 h2 h3 h
    by_cases q : 6 * i + 6 ≤ L
    · exact lw_step hL h q (fun M ln S H => ih (i + 1) M ln S (by omega) (by omega) (by omega) H)
    · rw [LL_law_18]
      dsimp only
      rw [lt_e, lt_e, if_pos (lw_end hL (by omega) q)]
      exact trivial
theorem pure_law {L : Nat} {xs : Nat → Int32} (hL : L ≤ 3072) : wpL_law L xs ln0 S00 := by
  unfold wpL_law
  refine start1 (Q := fun N ln S b => LL_law_18 L xs 1000 N ln S 0 b 0) ?_
  exact lw_loop hL 1000 0 _ _ _ (by omega) (by decide) (by omega) pi_start
