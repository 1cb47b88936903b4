/-! the reader: open yet -/
theorem px_show : st2 PX CX6_show CX7_show := by
  sorry
