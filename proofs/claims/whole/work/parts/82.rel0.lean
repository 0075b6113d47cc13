theorem Rel_0 : Rel s0C s0M := by sorry
