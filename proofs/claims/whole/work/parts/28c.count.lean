/-! Integer.bitCount -/
/-- Integer.bitCount tells how many bits there are -/
theorem sj_bitCount (x : Int32) (h : zH) : f_J6_bitCount [.inl x] h = some (some (.inl (nI (cnt9 (fun i => tb x i) 32))), h) := by
  sorry
