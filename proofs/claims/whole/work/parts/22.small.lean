/-! Small answers: booleans. -/
theorem zb_congr {p q : Prop} (h : p ↔ q) : zb p = zb q := by
  by_cases hp : p
  · rw [zb_pos hp, zb_pos (h.mp hp)]
  · rw [zb_neg hp, zb_neg (fun x => hp (h.mpr x))]
theorem zB10 {P : Prop} {h : zH} : zf P (some (some (.inl 1), h)) (some (some (.inl 0), h)) = some (some (.inl (zb P)), h) := by
  by_cases p : P
  · rw [zf_pos p, zb_pos p]
  · rw [zf_neg p, zb_neg p]
theorem zB01 {P : Prop} {h : zH} : zf P (some (some (.inl 0), h)) (some (some (.inl 1), h)) = some (some (.inl (zb (¬ P))), h) := by
  by_cases p : P
  · rw [zf_pos p, zb_neg (fun q => q p)]
  · rw [zf_neg p, zb_pos p]
theorem zB0b {P Q : Prop} {h : zH} : zf P (some (some (.inl 0), h)) (some (some (.inl (zb Q)), h)) = some (some (.inl (zb (¬ P ∧ Q))), h) := by
  by_cases p : P
  · rw [zf_pos p, zb_neg (fun q => q.1 p)]
  · rw [zf_neg p]; exact congrArg (fun x => some (some (Sum.inl x), h)) (zb_congr ⟨fun q => ⟨p, q⟩, fun q => q.2⟩)
theorem zBb0 {P Q : Prop} {h : zH} : zf P (some (some (.inl (zb Q)), h)) (some (some (.inl 0), h)) = some (some (.inl (zb (P ∧ Q))), h) := by
  by_cases p : P
  · rw [zf_pos p]; exact congrArg (fun x => some (some (Sum.inl x), h)) (zb_congr ⟨fun q => ⟨p, q⟩, fun q => q.2⟩)
  · rw [zf_neg p, zb_neg (fun q => p q.1)]
theorem zB1b {P Q : Prop} {h : zH} : zf P (some (some (.inl 1), h)) (some (some (.inl (zb Q)), h)) = some (some (.inl (zb (P ∨ Q))), h) := by
  by_cases p : P
  · rw [zf_pos p, zb_pos (Or.inl p)]
  · rw [zf_neg p]; exact congrArg (fun x => some (some (Sum.inl x), h)) (zb_congr ⟨Or.inr, fun q => q.resolve_left p⟩)
theorem z3 (c : Nat) : (3 : Int32) + nI c = nI (3 + c) := nI_add 3 c
theorem z10 (c : Nat) : (10 : Int32) + nI c = nI (10 + c) := nI_add 10 c
theorem z17 (c : Nat) : (17 : Int32) + nI c = nI (17 + c) := nI_add 17 c
/-! the model's -/
theorem sm_within (x a b : Int32) (h : zH) : f_X12_within [.inl x, .inl a, .inl b] h = some (some (.inl (zb (¬ x < a ∧ ¬ b < x))), h) := by
  rw [g_X12_within]; simp only [zB01, zB0b]
theorem sm_isPower (x : Int32) (h : zH) : f_X12_isPower [.inr (.inr (12, 0)), .inl x] h = some (some (.inl (zb (¬ x < 0 ∧ x < h.1 39 0 0))), h) := by
  rw [g_X12_isPower]; simp only [zB10, zB0b]
theorem sm_isCake (x : Int32) (h : zH) : f_X12_isCake [.inr (.inr (12, 0)), .inl x] h = some (some (.inl (zb (¬ x < 0 ∧ x < h.1 39 0 1))), h) := by
  rw [g_X12_isCake]; simp only [zB10, zB0b]
theorem sm_isThere {c : Nat} (hc : c < 7) (h : zH) : f_X12_isThere [.inr (.inr (12, 0)), .inl (nI c)] h = some (some (.inl (zb (0 < h.1 72 0 (3 + c)))), h) := by
  rw [g_X12_isThere, z3, zf_pos (vp_in_nI (by omega) (by omega)), nI_clamp (by omega), zB10]
theorem sm_hasHair (x : Int32) (h : zH) : f_X12_hasHair [.inr (.inr (12, 0)), .inl x] h = some (some (.inl (zb ((h.1 72 0 2 >>> (x &&& 31)) &&& 1 = 1))), h) := by
  rw [g_X12_hasHair, zB10]
theorem sm_canWash {c : Nat} (hc : c < 7) (h : zH) : f_X12_canWash [.inr (.inr (12, 0)), .inl (nI c)] h = some (some (.inl (zb (0 < h.1 72 0 (3 + c) ∧ ¬ (h.1 72 0 2 >>> (nI c &&& 31)) &&& 1 = 1))), h) := by
  rw [g_X12_canWash, sm_isThere hc]
  simp only [zci_ok, sm_hasHair, zb_0, zf_not, zB01, zBb0]
theorem sm_isDry {q : Nat} (hq : q < 5) (h : zH) : f_X12_isDry [.inr (.inr (12, 0)), .inl (nI q)] h = some (some (.inl (zb (h.1 42 0 q = 2 ∨ (h.1 12 0 54 >>> (nI q &&& 31)) &&& 1 = 1))), h) := by
  rw [g_X12_isDry, zf_pos (vp_in_nI (by omega) (by omega)), nI_clamp (by omega)]
  simp only [zB10, zB1b]
theorem sm_isFound {c : Nat} (hc : c < 7) (h : zH) : f_X12_isFound [.inr (.inr (12, 0)), .inl (nI c)] h = some (some (.inl (zb (¬ h.1 48 0 c < 0 ∧ ¬ h.1 48 0 c < h.1 72 0 (3 + c)))), h) := by
  have h1 : vp_in (nI c) 14 := vp_in_nI (by omega) (by omega)
  have h2 : vp_in (nI (3 + c)) 24 := vp_in_nI (by omega) (by omega)
  rw [g_X12_isFound, z3]
  simp only [zf_pos h1, zf_pos h2, nI_clamp (show c < 2 ^ 31 by omega), nI_clamp (show 3 + c < 2 ^ 31 by omega), zB01, zB0b]
theorem sm_isSliver {c : Nat} (hc : c < 7) (h : zH) : f_X12_isSliverNow [.inr (.inr (12, 0)), .inl (nI c)] h = some (some (.inl (zb (0 < h.1 72 0 (3 + c) ∧ ¬ h.1 39 0 2 < h.1 72 0 (3 + c)))), h) := by
  have h2 : vp_in (nI (3 + c)) 24 := vp_in_nI (by omega) (by omega)
  rw [g_X12_isSliverNow, sm_isThere hc, z3]
  simp only [zci_ok, zf_pos h2, nI_clamp (show 3 + c < 2 ^ 31 by omega), zb_0, zf_not, zB01, zBb0]
theorem sm_canGift {c : Nat} (hc : c < 7) (x : Int32) (h : zH) : f_X12_canGift [.inr (.inr (12, 0)), .inl (nI c), .inl x] h = some (some (.inl (zb (0 < h.1 72 0 (3 + c) ∧ ¬ h.1 72 0 (10 + c) = x))), h) := by
  have h2 : vp_in (nI (10 + c)) 24 := vp_in_nI (by omega) (by omega)
  rw [g_X12_canGift, sm_isThere hc, z10]
  simp only [zci_ok, zf_pos h2, nI_clamp (show 10 + c < 2 ^ 31 by omega), zb_0, zf_not, zB01, zBb0]
theorem sm_canPress {c : Nat} (hc : c < 7) (h : zH) : f_X12_canPress [.inr (.inr (12, 0)), .inl (nI c)] h = some (some (.inl (zb (0 < h.1 72 0 (3 + c) ∧ 0 < h.1 72 0 (17 + c)))), h) := by
  have h2 : vp_in (nI (17 + c)) 24 := vp_in_nI (by omega) (by omega)
  rw [g_X12_canPress, sm_isThere hc, z17]
  simp only [zci_ok, zf_pos h2, nI_clamp (show 17 + c < 2 ^ 31 by omega), zb_0, zf_not, zB10, zBb0]
theorem sm_presses {c : Nat} (hc : c < 7) (h : zH) : f_X12_presses [.inr (.inr (12, 0)), .inl (nI c)] h = some (none, zuI (zuI h 72 0 1 (h.1 72 0 1 + h.1 72 0 (3 + c))) 72 0 (3 + c) 0) := by
  have h2 : vp_in (nI (3 + c)) 24 := vp_in_nI (by omega) (by omega)
  rw [g_X12_presses, z3]
  simp only [zf_pos h2, nI_clamp (show 3 + c < 2 ^ 31 by omega)]
theorem sm_allThere {C : Nat} (h : zH) (hC : h.1 39 0 1 = nI C) (h7 : C ≤ 7) : f_X12_allThere [.inr (.inr (12, 0))] h = some (some (.inl (zbits (fun c => 0 < h.1 72 0 (3 + c)) C)), h) := by
  rw [g_X12_allThere]
  have key := zloop (fun i b => zL p_X12_allThere 4 [some (.inr (.inr (12, 0))), some (.inl b), some (.inl (nI i))] [] h) (fun c b => @ite _ (0 < h.1 72 0 (3 + c)) (Classical.propDecidable _) (b ||| ((1 : Int32) <<< (nI c &&& 31))) b) C 0 (fun i b hi => by
    have h1 : nI i < nI C := nI_lt hi (by omega)
    rw [e_X12_allThere_4, hC, zf_pos h1, sm_isThere (by omega), nI_1]
    simp only [zci_ok, zb_0, zf_not, zor0]
    by_cases h6 : 0 < h.1 72 0 (3 + i)
    · rw [zf_pos h6, zite_pos h6]
    · rw [zf_neg h6, zite_neg h6])
  rw [← nI_0]
  refine key.trans ?_
  rw [e_X12_allThere_4, hC, zf_neg (nI_nlt' (by omega))]
  rfl
/-! the class's -/
theorem sp_hasPower (j : Nat) (x : Int32) (h : zH) : f_X0_hasPower [.inr (.inr (0, j)), .inl x] h = some (some (.inl (zb (¬ x < 0 ∧ x < h.1 0 j 0 ∧ x < 5))), h) := by
  rw [g_X0_hasPower]; simp only [zB10, zBb0, zB0b]
theorem sp_kindOf (j : Nat) {q P : Nat} (h : zH) (hP : h.1 0 j 0 = nI P) (h5 : P ≤ 5) (hq : q < P) : f_X0_kindOf [.inr (.inr (0, j)), .inl (nI q)] h = some (some (.inl (h.1 14 j q)), h) := by
  have h1 : ¬ nI q < 0 := nI_pos (by omega)
  have h2 : nI q < nI P := nI_lt hq (by omega)
  have h3 : nI q < 5 := nI_lt (b := 5) (by omega) (by omega)
  have h4 : vp_in (nI q) 5 := vp_in_nI (by omega) (by omega)
  rw [g_X0_kindOf, sp_hasPower, hP]
  simp only [zci_ok, zb_0, h1, h2, h3, not_false_eq_true, and_self, not_true, zf_false, zf_pos h4, nI_clamp (show q < 2 ^ 31 by omega)]
theorem sp_waterOf (j : Nat) {q P : Nat} (h : zH) (hP : h.1 0 j 0 = nI P) (h5 : P ≤ 5) (hq : q < P) : f_X0_waterOf [.inr (.inr (0, j)), .inl (nI q)] h = some (some (.inl (h.1 15 j q)), h) := by
  have h1 : ¬ nI q < 0 := nI_pos (by omega)
  have h2 : nI q < nI P := nI_lt hq (by omega)
  have h3 : nI q < 5 := nI_lt (b := 5) (by omega) (by omega)
  have h4 : vp_in (nI q) 5 := vp_in_nI (by omega) (by omega)
  rw [g_X0_waterOf, sp_hasPower, hP]
  simp only [zci_ok, zb_0, h1, h2, h3, not_false_eq_true, and_self, not_true, zf_false, zf_pos h4, nI_clamp (show q < 2 ^ 31 by omega)]
theorem sp_canWear (j : Nat) {q P : Nat} (x : Int32) (h : zH) (hP : h.1 0 0 0 = nI P) (h5 : P ≤ 5) (hq : q < P) : f_X8_canWear [.inr (.inr (8, j)), .inl x, .inl (nI q)] h = some (some (.inl (zb (¬ (h.1 8 j 4 >>> (x &&& 31)) &&& 1 = 1 ∧ ¬ h.1 14 0 q = 2))), h) := by
  rw [g_X8_canWear, sp_hasHair]
  simp only [zci_ok, zb_0, zf_not, sp_kindOf 0 h hP h5 hq, zB01, zB0b]
theorem sp_isFound (j : Nat) {c C : Nat} (h : zH) (hC : h.1 0 0 4 = nI C) (h7 : C ≤ 7) (hc : c < C) : f_X8_isFound [.inr (.inr (8, j)), .inl (nI c)] h = some (some (.inl (zb (¬ h.1 21 0 c = zm1 ∧ ¬ h.1 21 0 c < h.1 32 j c))), h) := by
  have h1 : ¬ nI c < 0 := nI_pos (by omega)
  have h2 : nI c < nI C := nI_lt hc (by omega)
  have h3 : nI c < 7 := nI_lt (b := 7) (by omega) (by omega)
  have h4 : vp_in (nI c) 7 := vp_in_nI (by omega) (by omega)
  rw [g_X8_isFound, sp_hasCake, hC]
  simp only [zci_ok, zb_0, h1, h2, h3, not_false_eq_true, and_self, not_true, zf_false, zf_pos h4, nI_clamp (show c < 2 ^ 31 by omega), zB01, zB0b, true_and]
