/-! The model: rows copied; the three that work a law. -/
theorem sm_copies {K0 K1 a b : Nat} (h : zH) (h0 : zty K0 = 1) (h1 : zty K1 = 1) (hne : K0 ≠ K1) (ha : a + 24 ≤ zlen K0) (hb : b + 24 ≤ zlen K1) (hl0 : zlen K0 < 100000) (hl1 : zlen K1 < 100000) : ∃ g, f_X12_copies [.inr (.inr (K0, 0)), .inl (nI a), .inr (.inr (K1, 0)), .inl (nI b)] h = some (none, g) ∧ zsame [(K1, 0)] h g ∧ (∀ k, g.1 K1 0 k = if b ≤ k ∧ k < b + 24 then h.1 K0 0 (a + (k - b)) else h.1 K1 0 k) := by
  rw [g_X12_copies]
  obtain ⟨g, e1, hs, hT⟩ := zloopE (fun i (g : zH) => zL p_X12_copies 3 [some (.inr (.inr (K0, 0))), some (.inl (nI a)), some (.inr (.inr (K1, 0))), some (.inl (nI b)), some (.inl (nI i))] [] g)
    (fun i g => zsame [(K1, 0)] h g ∧ (∀ k, g.1 K1 0 k = if b ≤ k ∧ k < b + i then h.1 K0 0 (a + (k - b)) else h.1 K1 0 k)) 24 h ⟨zsame.rf, fun k => by rw [if_neg (by omega)]⟩ (fun i g hi q => by
      obtain ⟨hs, hT⟩ := q
      have c1 : nI i < 24 := nI_lt (b := 24) hi (by omega)
      have b0 : Nat.beq (zty K0) 1 = true := by rw [h0]; rfl
      have b1 : Nat.beq (zty K1) 1 = true := by rw [h1]; rfl
      rw [e_X12_copies_3, zf_pos c1, b0, b1, nI_add, nI_add, nI_1]
      dsimp only
      rw [zf_pos (vp_in_nI (n := a + i) (by omega) (by omega)), zf_pos (vp_in_nI (n := b + i) (by omega) (by omega)), nI_clamp (show a + i < 2 ^ 31 by omega), nI_clamp (show b + i < 2 ^ 31 by omega)]
      refine ⟨_, rfl, hs.set (by simp), fun k => ?_⟩
      by_cases e : k = b + i
      · rw [e, zuI_at, if_pos (by omega), hs.1 K0 0 (a + i) (by simp [hne]), show b + i - b = i by omega]
      · rw [zuI_ne e, hT k]
        by_cases e2 : b ≤ k ∧ k < b + i
        · rw [if_pos e2, if_pos (by omega)]
        · rw [if_neg e2, if_neg (by omega)])
  rw [← nI_0]
  have e1 : zL p_X12_copies 3 [some (.inr (.inr (K0, 0))), some (.inl (nI a)), some (.inr (.inr (K1, 0))), some (.inl (nI b)), some (.inl (nI 0))] [] h = zL p_X12_copies 3 [some (.inr (.inr (K0, 0))), some (.inl (nI a)), some (.inr (.inr (K1, 0))), some (.inl (nI b)), some (.inl (nI 24))] [] g := e1
  rw [e1, e_X12_copies_3, zf_neg (show ¬ nI 24 < 24 by decide)]
  exact ⟨g, rfl, hs, hT⟩
theorem sm_opens {d : Nat} (hd : d < 7) (h : zH) : f_X12_opens [.inr (.inr (12, 0)), .inl (nI d)] h = some (none, zuI (zuI (zuI (zuI (zuI h 55 0 d 0) 57 0 d 0) 58 0 d 0) 59 0 d 20) 61 0 d 0) := by
  have h1 : vp_in (nI d) 7 := vp_in_nI (by omega) (by omega)
  rw [g_X12_opens]; simp only [zf_pos h1, nI_clamp (show d < 2 ^ 31 by omega)]
theorem sm_sums {d : Nat} (hd : d < 7) (h : zH) : f_X12_sums [.inr (.inr (12, 0)), .inl (nI d)] h = some (none, zuI (zuI h 58 0 d (zi (h.1 59 0 d = 21) (h.1 58 0 d - h.1 60 0 d) (h.1 58 0 d + h.1 60 0 d))) 61 0 d 0) := by
  have h1 : vp_in (nI d) 7 := vp_in_nI (by omega) (by omega)
  rw [g_X12_sums]; simp only [zf_pos h1, nI_clamp (show d < 2 ^ 31 by omega)]
  by_cases e : h.1 59 0 d = 21
  · rw [zf_pos e, zi_pos e]
  · rw [zf_neg e, zi_neg e]
/-- what a test comes to, with what was kept before it -/
noncomputable def mtest1 (ag ah sm : Int32) : Int32 := zi (ag = 25) (zi (ah = sm) 1 0) (zi (ag = 24) (zi (ah < sm) 1 0) sm)
noncomputable def mtest2 (kb kp v : Int32) : Int32 := zi (kb = 26) (zi (kp = 0) 0 (zi (v = 0) 0 1)) v
noncomputable def mtest3 (kb kp v : Int32) : Int32 := zi (kb = 27) (zi (kp = 0) (zi (v = 0) 0 1) 1) v
noncomputable def mtest (ag ah sm kb kp : Int32) : Int32 := mtest3 kb kp (mtest2 kb kp (mtest1 ag ah sm))
/-- a sum, with the term before it taken in -/
noncomputable def msum (by_ sm tm : Int32) : Int32 := zi (by_ = 21) (sm - tm) (sm + tm)
