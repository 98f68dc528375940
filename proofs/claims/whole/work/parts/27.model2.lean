/-! The model: a test worked. -/
theorem st_44 {d : Nat} (hd : d < 7) (x : Int32) (h : zH) : zL p_X12_tests 44 [some (.inr (.inr (12, 0))), some (.inl (nI d)), some (.inl x)] [] h = zL p_X12_tests 76 [some (.inr (.inr (12, 0))), some (.inl (nI d)), some (.inl (zi (h.1 57 0 d = 25) (zi (h.1 56 0 d = h.1 58 0 d) 1 0) x))] [] h := by
  have h1 : vp_in (nI d) 7 := vp_in_nI (by omega) (by omega)
  rw [e_X12_tests_44]; simp only [zf_pos h1, nI_clamp (show d < 2 ^ 31 by omega)]
  by_cases e : h.1 57 0 d = 25
  · rw [zf_pos e, zi_pos e]
    by_cases e2 : h.1 56 0 d = h.1 58 0 d
    · rw [zf_pos e2, zi_pos e2]
    · rw [zf_neg e2, zi_neg e2]
  · rw [zf_neg e, zi_neg e]
theorem st_76 {d : Nat} (hd : d < 7) (x : Int32) (h : zH) : zL p_X12_tests 76 [some (.inr (.inr (12, 0))), some (.inl (nI d)), some (.inl x)] [] h = zL p_X12_tests 106 [some (.inr (.inr (12, 0))), some (.inl (nI d)), some (.inl (zi (h.1 55 0 d = 26) (zi (h.1 54 0 d = 0) 0 (zi (x = 0) 0 1)) x))] [] h := by
  have h1 : vp_in (nI d) 7 := vp_in_nI (by omega) (by omega)
  rw [e_X12_tests_76]; simp only [zf_pos h1, nI_clamp (show d < 2 ^ 31 by omega)]
  by_cases e : h.1 55 0 d = 26
  · rw [zf_pos e, zi_pos e]
    by_cases e2 : h.1 54 0 d = 0
    · rw [zf_pos e2, zi_pos e2]
    · rw [zf_neg e2, zi_neg e2]
      by_cases e3 : x = 0
      · rw [zf_pos e3, zi_pos e3]
      · rw [zf_neg e3, zi_neg e3]
  · rw [zf_neg e, zi_neg e]
theorem st_106 {d : Nat} (hd : d < 7) (x : Int32) (h : zH) : zL p_X12_tests 106 [some (.inr (.inr (12, 0))), some (.inl (nI d)), some (.inl x)] [] h = zL p_X12_tests 136 [some (.inr (.inr (12, 0))), some (.inl (nI d)), some (.inl (zi (h.1 55 0 d = 27) (zi (h.1 54 0 d = 0) (zi (x = 0) 0 1) 1) x))] [] h := by
  have h1 : vp_in (nI d) 7 := vp_in_nI (by omega) (by omega)
  rw [e_X12_tests_106]; simp only [zf_pos h1, nI_clamp (show d < 2 ^ 31 by omega)]
  by_cases e : h.1 55 0 d = 27
  · rw [zf_pos e, zi_pos e]
    by_cases e2 : h.1 54 0 d = 0
    · rw [zf_pos e2, zi_pos e2]
      by_cases e3 : x = 0
      · rw [zf_pos e3, zi_pos e3]
      · rw [zf_neg e3, zi_neg e3]
    · rw [zf_neg e2, zi_neg e2]
  · rw [zf_neg e, zi_neg e]
theorem st_136 {d : Nat} (hd : d < 7) (x : Int32) (h : zH) : zL p_X12_tests 136 [some (.inr (.inr (12, 0))), some (.inl (nI d)), some (.inl x)] [] h = some (none, zuI (zuI (zuI (zuI h 54 0 d x) 57 0 d 0) 58 0 d 0) 59 0 d 20) := by
  have h1 : vp_in (nI d) 7 := vp_in_nI (by omega) (by omega)
  rw [e_X12_tests_136]; simp only [zf_pos h1, nI_clamp (show d < 2 ^ 31 by omega)]
/-- a test at depth d: the value is kept, the next one begins -/
theorem sm_tests {d : Nat} (hd : d < 7) (h g : zH) (hg : g = zuI (zuI h 58 0 d (zi (h.1 59 0 d = 21) (h.1 58 0 d - h.1 60 0 d) (h.1 58 0 d + h.1 60 0 d))) 61 0 d 0) :
    f_X12_tests [.inr (.inr (12, 0)), .inl (nI d)] h = some (none, zuI (zuI (zuI (zuI g 54 0 d (mtest (g.1 57 0 d) (g.1 56 0 d) (g.1 58 0 d) (g.1 55 0 d) (g.1 54 0 d))) 57 0 d 0) 58 0 d 0) 59 0 d 20) := by
  unfold mtest mtest1 mtest2 mtest3
  have h1 : vp_in (nI d) 7 := vp_in_nI (by omega) (by omega)
  rw [g_X12_tests, sm_sums hd, zcv_ok, ← hg]
  simp only [zf_pos h1, nI_clamp (show d < 2 ^ 31 by omega)]
  by_cases e : g.1 57 0 d = 24
  · rw [zf_pos e]
    by_cases e2 : g.1 56 0 d < g.1 58 0 d
    · rw [zf_pos e2, st_44 hd, st_76 hd, st_106 hd, st_136 hd, zi_pos (P := g.1 57 0 d = 24) e, zi_pos (P := g.1 56 0 d < g.1 58 0 d) e2]
    · rw [zf_neg e2, st_44 hd, st_76 hd, st_106 hd, st_136 hd, zi_pos (P := g.1 57 0 d = 24) e, zi_neg (P := g.1 56 0 d < g.1 58 0 d) e2]
  · rw [zf_neg e, st_44 hd, st_76 hd, st_106 hd, st_136 hd, zi_neg (P := g.1 57 0 d = 24) e]
