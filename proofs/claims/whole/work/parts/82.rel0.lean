/-! the start stands in the relation -/
theorem Rel_0 : Rel 0 s0C s0M := by
  refine ⟨3, 0, by omega, by omega, ?_, ?_, ?_, ?_, ?_, ?_, ?_, ?_, ?_, ?_⟩
  · refine ⟨by decide +kernel, by decide +kernel, ?_, ?_, ⟨⟨0, by omega, by decide +kernel⟩, by decide +kernel⟩, ⟨1, by omega, by omega, by decide +kernel⟩, by decide +kernel⟩
    · have h : ∀ d, d < 5 → s0C.1 2 0 d = nI 1 ∧ s0M.1 1 0 d = s0C.1 2 0 d := by decide +kernel
      exact fun d hd => ⟨⟨1, by omega, (h d hd).1⟩, (h d hd).2⟩
    · have h : ∀ d, d < 5 → s0C.1 3 0 d = nI 0 ∧ s0M.1 7 0 d = s0C.1 3 0 d := by decide +kernel
      exact fun d hd => ⟨⟨0, by omega, (h d hd).1⟩, (h d hd).2⟩
  · exact ⟨⟨0, 0, by omega, by omega, by decide +kernel, by decide +kernel, by decide +kernel, by decide +kernel, by decide +kernel, fun a ha => by omega⟩, by decide +kernel, by decide +kernel, by decide +kernel⟩
  · exact ⟨1, by omega, by decide +kernel, Or.inl ⟨by decide +kernel, Or.inl (by decide +kernel)⟩⟩
  · exact ⟨0, 0, by omega, by omega, by decide +kernel, by decide +kernel, by decide +kernel, by decide +kernel, fun k hk => by omega⟩
  · exact ⟨0, by omega, by decide +kernel, by decide +kernel, fun k hk => by omega⟩
  · have h : ∀ h, h < 4 → s0C.1 23 h 6 = nI 3 ∧ s0C.1 23 h 5 = 0 ∧ s0M.1 10 0 h = -1 := by decide +kernel
    exact fun k hk => ⟨(h k hk).1, Or.inl (h k hk).2⟩
  · have h : ∀ h, h < 4 → s0C.1 23 h 5 = 0 := by decide +kernel
    exact fun k hk => Or.inl (h k hk)
  · have h : ∀ h, h < 4 → s0C.1 34 0 h = nI 0 := by decide +kernel
    exact ⟨1, by omega, by omega, by decide +kernel, fun k hk => ⟨0, by omega, h k hk, fun e => by omega⟩⟩
  · refine ⟨by omega, by decide +kernel, by decide +kernel, fun k hk => by omega, ⟨0, by omega, by decide +kernel, by decide +kernel⟩, by decide +kernel⟩
  · have h : ∀ d, d < 6 → s0C.1 40 0 d = -1 ∧ s0M.1 20 0 d = -1 := by decide +kernel
    exact fun d hd => Or.inl (h d hd)
