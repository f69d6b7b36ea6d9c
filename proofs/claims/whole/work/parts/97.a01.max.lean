/-! what may be asked: a greatest of two -/
theorem z_max1 (v : Int32) : (if v ≤ nI 1 then nI 1 else v) = (if nI 1 ≤ v then v else nI 1) := by
  by_cases h : v ≤ nI 1
  · rw [if_pos h]
    by_cases g : nI 1 ≤ v
    · rw [if_pos g]; exact Int32.le_antisymm g h
    · rw [if_neg g]
  · rw [if_neg h, if_pos (Int32.le_of_lt (Int32.not_le.mp h))]
