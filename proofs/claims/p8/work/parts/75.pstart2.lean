/-! the relation at the start -/
set_option maxRecDepth 100000 in
set_option maxHeartbeats 4000000 in
theorem pi_start : PI 91 LkF TkF := by
  refine ⟨⟨?_, ?_, by decide, by decide⟩, ⟨⟨0, by decide, by decide +kernel, by decide +kernel, fun k hk j hj => absurd hj (by omega), fun k j hk hj => absurd hj (by omega), ⟨by decide +kernel, 30, by decide, by decide +kernel⟩, ⟨by decide +kernel, 0, by decide, by decide +kernel⟩, by decide +kernel⟩, 0, by decide, by decide +kernel, by decide +kernel, fun t ht => absurd ht (by omega)⟩, ⟨by decide +kernel, Or.inl (by decide +kernel)⟩, ⟨0, by decide, by decide +kernel, by decide +kernel, fun j hj => absurd hj (by omega)⟩, ?_, ?_, ⟨0, by decide, by decide +kernel, by decide +kernel, fun j hj => absurd hj (by omega)⟩, ?_, ?_⟩
  · unfold SH
    decide +kernel
  · unfold LN
    decide +kernel
  · have a : ∀ i, i < 4 → (hI TkF (45 + 2 * i) 0 = hI TkF 82 i ∧ hI TkF 82 i = -1) ∧ (hI TkF (45 + 2 * i) 1 = nI 0 ∧ hI TkF 83 i = nI 0) := by decide +kernel
    have b : ∀ i, i < 4 → ∀ j, j < 24 → hI TkF (46 + 2 * i) j = hI TkF 84 (24 * i + j) ∧ hI TkF 84 (24 * i + j) = 0 := by decide +kernel
    intro i hi
    obtain ⟨⟨a1, a2⟩, a3, a4⟩ := a i hi
    refine ⟨⟨a1, Or.inl a2⟩, ⟨0, by decide, a3, a4⟩, fun j hj => ?_⟩
    obtain ⟨b1, b2⟩ := b i hi j hj
    refine ⟨b1, ?_⟩
    rw [b2]
    exact Or.inr ⟨by decide, by decide⟩
  · have a : ∀ i, i < 5 → hI TkF (53 + 3 * i) 0 = hI TkF 85 i ∧ hI TkF 85 i = 0 := by decide +kernel
    intro i hi
    obtain ⟨a1, a2⟩ := a i hi
    exact ⟨a1, Or.inl a2⟩
  · decide +kernel
  · decide +kernel
theorem sheets_start : ∀ i, i < 4 → hI TkF 82 i = -1 := by decide +kernel
theorem tape_start : hI TkF 38 1 = 0 := by decide +kernel
