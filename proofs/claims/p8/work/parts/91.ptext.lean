/-! step text: one more text, on both sides -/
theorem LT_lt : LT.all (fun q => decide (q.1 < 91)) = true := by decide
theorem RT_lt : RT.all (fun q => decide (q.1 < 91)) = true := by decide
theorem SH.nw {S : HC} {N : Nat} (h : SH S) (hN : 91 ≤ N) : SH (nw S N) := h.of (fun q hq => by
  have h1 := of_decide_eq_true (List.all_eq_true.mp RT_lt q hq)
  show (if q.1 = N then (fun _ => none) else S.2.1 q.1) q.2.1 = _
  rw [if_neg (by omega)]
  rfl)
theorem hI_nw {S : HC} {N r i : Nat} (h : r ≠ N) : hI (nw S N) r i = hI S r i := by
  show (if r = N then (fun _ => 0) else S.1 r) i = _
  rw [if_neg h]
  rfl
theorem hR_nw {S : HC} {N r i : Nat} (h : r ≠ N) : hR (nw S N) r i = hR S r i := by
  show (if r = N then (fun _ => none) else S.2.1 r) i = _
  rw [if_neg h]
  rfl
theorem LN.up {ln : Nat → Nat} {N c : Nat} (h : LN ln) (hN : 91 ≤ N) : LN (va_up ln N c) := fun q hq => by
  have h1 := of_decide_eq_true (List.all_eq_true.mp LT_lt q hq)
  rw [va_up_ne _ _ (by omega)]
  exact h q hq
theorem LAW.up {ln ln' : Nat → Nat} {N N' : Nat} {S S' : HC} {q a t key c : Nat} (h : LAW ln N S q a t key c) (hN : N ≤ N') (e1 : ∀ r i, 91 ≤ r → r < N → hI S' r i = hI S r i) (e2 : ∀ r i, 91 ≤ r → r < N → hR S' r i = hR S r i) (e3 : ∀ r, 91 ≤ r → r < N → ln' r = ln r) (e4 : hI S' a (89 + 2 * t) = hI S a (89 + 2 * t) ∧ hI S' a (90 + 2 * t) = hI S a (90 + 2 * t) ∧ ∀ i, i < 96 → hI S' a (117 + 96 * t + i) = hI S a (117 + 96 * t + i)) : LAW ln' N' S' q a t key c := by
  obtain ⟨⟨a1, a2⟩, a3, ⟨a4, a4', a4''⟩, ⟨a5, a6⟩, a7, a8, a9, a10, a11⟩ := h
  refine ⟨⟨a1, by omega⟩, by rw [e2 _ _ (by omega) a2]; exact a3, ⟨by rw [e3 _ (by omega) (by omega)]; exact a4, a4', a4''⟩, ⟨a5, by rw [e1 _ _ (by omega) a2]; exact a6⟩, by rw [e4.1]; exact a7, by rw [e4.2.1, e1 _ _ (by omega) a2]; exact a8, fun i hi => by rw [e4.2.2 i (by omega), e1 _ _ (by omega) (by omega)]; exact a9 i hi, ?_, fun i hi => by rw [e4.2.2 i (by omega), e1 _ _ (by omega) (by omega)]; exact a11 i hi⟩
  rw [← a10]
  exact wfC_ag c 0 0 (fun i _ hi => e4.2.2 i (by omega))
theorem LR.ag2 {S S' : HC} {b a n : Nat} (h : LR S b a n) (h1 : ∀ r k, b + 1 ≤ r → r ≤ b + 6 → hI S' r k = hI S r k) (h2 : ∀ f, f = 6 ∨ f = 7 ∨ f = 8 ∨ f = 9 → hI S' b f = hI S b f) (h3 : ∀ k, k < 89 → k ≠ 4 → hI S' a k = hI S a k) : LR S' b a n := by
  obtain ⟨a1, a2, a3, a4, a5, a6, a7, a8⟩ := h
  have e : AG n (mf S' a) (mf S a) := fun k hk j hj => h3 _ (by omega) (by omega)
  refine ⟨a1, by rw [h2 6 (by omega)]; exact a2, by rw [h3 _ (by decide) (by decide)]; exact a3, fun k hk j hj => ?_, a5.ag e, by rw [h2 7 (by omega), h3 _ (by decide) (by decide)]; exact a6, by rw [h2 8 (by omega), h3 _ (by decide) (by decide)]; exact a7, by rw [h2 9 (by omega), h3 _ (by decide) (by decide)]; exact a8⟩
  rw [e k hk j hj, ← a4 k hk j hj]
  exact h1 _ _ (by omega) (by omega)
theorem getD_map {c : List Int32} {i : Nat} (h : i < c.length) : (c.map trS).getD i 0 = trS (c.getD i 0) := by
  simp [List.getD, h]
theorem getD_mem {c : List Int32} {i : Nat} (h : i < c.length) : c.getD i 0 ∈ c := by
  simp [List.getD, h]
theorem PI.law {N : Nat} {ln : Nat → Nat} {S S' : HC} {m key lv : Nat} {cc : List Int32} (h : PI N ln S) (hm : m < 14) (h11 : hI S 1 11 = nI m) (hkey : key < 3) (c96 : cc.length ≤ 96) (hg : ∀ v, v ∈ cc → gCd key v) (hwf : wfL (cc.map trS) 0 = some 1) (E1 : ∀ r i, r < N → r ≠ 37 → r ≠ 40 → r ≠ 77 → r ≠ 78 → r ≠ 79 → ¬ (r = 38 ∧ i = 1) → ¬ (r = 1 ∧ i = 11) → ¬ (r = 68 ∧ 7 ≤ i ∧ i ≤ 20) → ¬ (r = 69 ∧ (i = 4 ∨ i = 89 + 2 * m ∨ i = 90 + 2 * m ∨ (117 + 96 * m ≤ i ∧ i < 117 + 96 * m + cc.length))) → hI S' r i = hI S r i) (E2 : hI S' 38 1 = 0 ∧ hI S' 68 7 = 0 ∧ hI S' 1 11 = nI (m + 1) ∧ hI S' 69 4 = nI (m + 1)) (E3 : hI S' 69 (89 + 2 * m) = nI (1000 * key + cc.length) ∧ hI S' 69 (90 + 2 * m) = nI lv ∧ ∀ i, i < cc.length → hI S' 69 (117 + 96 * m + i) = (cc.map trS).getD i 0) (E4 : (∀ i, i < cc.length → hI S' N i = cc.getD i 0) ∧ hI S' (N + 1) 0 = nI key ∧ hI S' (N + 1) 1 = nI lv) (R1 : ∀ r i, r < N → ¬ (r = 8 ∧ i = m) → hR S' r i = hR S r i) (R2 : hR S' 8 m = some (N + 1) ∧ hR S' (N + 1) 2 = some N) : PI (N + 2) (va_up ln N cc.length) S' := by
  obtain ⟨⟨hs, hl, hN1, hN2⟩, ⟨⟨n, hn⟩, hw⟩, ⟨hi1, hi2⟩, b3, b4, b5, b6, b7⟩ := h
  have c1 : 1 ≤ cc.length := by
    cases cc with
    | nil => simp [wfL] at hwf
    | cons x l => simp
  have up : ∀ {q a t key c}, LAW ln N S q a t key c → (hI S' a (89 + 2 * t) = hI S a (89 + 2 * t) ∧ hI S' a (90 + 2 * t) = hI S a (90 + 2 * t) ∧ ∀ i, i < 96 → hI S' a (117 + 96 * t + i) = hI S a (117 + 96 * t + i)) → LAW (va_up ln N cc.length) (N + 2) S' q a t key c := fun u e4 => u.up (by omega) (fun r i u1 u2 => E1 r i u2 (by omega) (by omega) (by omega) (by omega) (by omega) (by omega) (by omega) (by omega) (by omega)) (fun r i u1 u2 => R1 r i u2 (by omega)) (fun r u1 u2 => va_up_ne _ _ (by omega)) e4
  refine ⟨⟨hs.of (fun q hq => ?_), hl.up hN1, by omega, by omega⟩, ⟨⟨n, hn.ag2 (fun r k u1 u2 => E1 r k (by omega) (by omega) (by omega) (by omega) (by omega) (by omega) (by omega) (by omega) (by omega) (by omega)) (fun f u => E1 _ _ (by omega) (by omega) (by omega) (by omega) (by omega) (by omega) (by omega) (by omega) (by omega) (by omega)) (fun k u1 u2 => E1 _ _ (by omega) (by omega) (by omega) (by omega) (by omega) (by omega) (by omega) (by omega) (by omega) (by omega))⟩, ?_⟩, ⟨?_, ?_⟩, ⟨0, by decide, E2.1, E2.2.1, fun j hj => absurd hj (by omega)⟩, b4.ag (fun r k u => E1 r k (by omega) (by omega) (by omega) (by omega) (by omega) (by omega) (by omega) (by omega) (by omega) (by omega)), b5.ag (fun r k u => E1 r k (by omega) (by omega) (by omega) (by omega) (by omega) (by omega) (by omega) (by omega) (by omega) (by omega)), b6.ag (fun r k u => E1 r k (by omega) (by omega) (by omega) (by omega) (by omega) (by omega) (by omega) (by omega) (by omega) (by omega)), b7.ag (fun r k u => E1 r k (by omega) (by omega) (by omega) (by omega) (by omega) (by omega) (by omega) (by omega) (by omega) (by omega))⟩
  · have h1 := of_decide_eq_true (List.all_eq_true.mp RT_lt q hq)
    have h2 := List.all_eq_true.mp RT_lw q hq
    simp at h2
    exact R1 _ _ (by omega) (by omega)
  · obtain ⟨m0, m1, m2, m3, m4⟩ := hw
    have em : m0 = m := (nI_eq (by omega) (by omega)).mp (m2.symm.trans h11)
    subst em
    refine ⟨m0 + 1, by omega, E2.2.2.1, E2.2.2.2, fun t ht => ?_⟩
    by_cases e : t = m0
    · subst e
      refine ⟨N + 1, key, cc.length, R2.1, ⟨by omega, by omega⟩, R2.2, ⟨?_, c1, c96⟩, ⟨hkey, E4.2.1⟩, E3.1, by rw [E3.2.1, E4.2.2], fun i hi => ?_, ?_, fun i hi => ?_⟩
      · show va_up ln N cc.length (N + 1 - 1) = cc.length
        rw [show N + 1 - 1 = N by omega, va_up_self]
      · show _ = trS (hI S' (N + 1 - 1) i)
        rw [show N + 1 - 1 = N by omega, E3.2.2 i hi, E4.1 i hi, getD_map hi]
      · have el : (cc.map trS).length = cc.length := List.length_map _
        rw [← el, wfL_C (cc.map trS) _ 0 0 (fun j hj => by rw [Nat.zero_add]; exact E3.2.2 j (by omega))]
        exact hwf
      · show 0 ≤ hI S' (N + 1 - 1) i ∧ _
        rw [show N + 1 - 1 = N by omega, E4.1 i hi, E3.2.2 i hi, getD_map hi]
        exact hg _ (getD_mem hi)
    · obtain ⟨q, key', c, q1, q2⟩ := m4 t (by omega)
      refine ⟨q, key', c, by rw [R1 _ _ (by omega) (by omega)]; exact q1, up q2 ⟨?_, ?_, fun i hi => ?_⟩⟩
      · exact E1 _ _ (by omega) (by omega) (by omega) (by omega) (by omega) (by omega) (by omega) (by omega) (by omega) (by omega)
      · exact E1 _ _ (by omega) (by omega) (by omega) (by omega) (by omega) (by omega) (by omega) (by omega) (by omega) (by omega)
      · exact E1 _ _ (by omega) (by omega) (by omega) (by omega) (by omega) (by omega) (by omega) (by omega) (by omega) (by omega)
  · rw [E1 0 2 (by omega) (by omega) (by omega) (by omega) (by omega) (by omega) (by omega) (by omega) (by omega) (by omega), E1 68 3 (by omega) (by omega) (by omega) (by omega) (by omega) (by omega) (by omega) (by omega) (by omega) (by omega)]
    exact hi1
  · have o : ∀ k, hI S' 70 k = hI S 70 k := fun k => E1 _ _ (by omega) (by omega) (by omega) (by omega) (by omega) (by omega) (by omega) (by omega) (by omega) (by omega)
    rw [E1 68 3 (by omega) (by omega) (by omega) (by omega) (by omega) (by omega) (by omega) (by omega) (by omega) (by omega)]
    rcases hi2 with q | ⟨q, ⟨n2, hn2⟩, m0, m1, m2, m3, m4⟩
    · exact Or.inl q
    · refine Or.inr ⟨q, ⟨n2, hn2.ag (fun r k u1 u2 => E1 r k (by omega) (by omega) (by omega) (by omega) (by omega) (by omega) (by omega) (by omega) (by omega) (by omega)) o⟩, m0, m1, by rw [E1 9 11 (by omega) (by omega) (by omega) (by omega) (by omega) (by omega) (by omega) (by omega) (by omega) (by omega)]; exact m2, by rw [o]; exact m3, fun t ht => ?_⟩
      obtain ⟨q', key', c, q1, q2⟩ := m4 t ht
      exact ⟨q', key', c, by rw [R1 _ _ (by omega) (by omega)]; exact q1, up q2 ⟨o _, o _, fun i _ => o _⟩⟩
