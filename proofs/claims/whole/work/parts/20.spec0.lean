/-! first specs -/
theorem zci_ok (r : Int32) (h : zH) (k : Int32 → zH → Option zRes) : zci (some (some (.inl r), h)) k = k r h := rfl
theorem zcj_ok (r : Int64) (h : zH) (k : Int64 → zH → Option zRes) : zcj (some (some (.inr (.inl r)), h)) k = k r h := rfl
theorem zcv_ok (h : zH) (k : zH → Option zRes) : zcv (some (none, h)) k = k h := rfl
noncomputable def zb (p : Prop) : Int32 := @ite _ p (Classical.propDecidable p) 1 0
theorem zb_pos {p : Prop} (h : p) : zb p = 1 := by unfold zb; exact if_pos h
theorem zb_neg {p : Prop} (h : ¬ p) : zb p = 0 := by unfold zb; exact if_neg h
theorem zb_0 {p : Prop} : (zb p = 0) ↔ ¬ p := by
  by_cases h : p
  · rw [zb_pos h]; exact ⟨fun q => absurd q (by decide), fun q => absurd h q⟩
  · rw [zb_neg h]; exact ⟨fun _ => h, fun _ => rfl⟩
theorem zb_1 {p : Prop} : (zb p = 1) ↔ p := by
  by_cases h : p
  · rw [zb_pos h]; exact ⟨fun _ => h, fun _ => rfl⟩
  · rw [zb_neg h]; exact ⟨fun q => absurd q (by decide), fun q => absurd q h⟩
theorem zb_01 {p : Prop} : (zb p = 0 ∨ zb p = 1) ↔ True := by
  rw [zb_0, zb_1]; exact ⟨fun _ => trivial, fun _ => (Classical.em p).symm⟩
theorem zf_not {c : Prop} {A B : Option zRes} : zf (¬ c) A B = zf c B A := by
  by_cases h : c
  · rw [zf_pos h, zf_neg (fun q => q h)]
  · rw [zf_neg h, zf_pos h]
theorem zf_true {A B : Option zRes} : zf True A B = A := zf_pos trivial _ _
theorem zf_false {A B : Option zRes} : zf False A B = B := zf_neg (fun q => q) _ _
theorem zf_same {c : Prop} {A : Option zRes} : zf c A A = A := by
  by_cases h : c
  · rw [zf_pos h]
  · rw [zf_neg h]
theorem sp_hasCake (j : Nat) (x : Int32) (h : zH) : f_X0_hasCake [.inr (.inr (0, j)), .inl x] h = some (some (.inl (zb (¬ x < 0 ∧ x < h.1 0 j 4 ∧ x < 7))), h) := by
  rw [g_X0_hasCake]
  by_cases h1 : x < 0 <;> by_cases h2 : x < h.1 0 j 4 <;> by_cases h3 : x < 7 <;> simp only [zf_pos, zf_neg, h1, h2, h3, zb_pos, zb_neg, not_true, not_false_eq_true, and_self, and_true, true_and, false_and, and_false]
theorem sp_hasHair (j : Nat) (x : Int32) (h : zH) : f_X8_hasHair [.inr (.inr (8, j)), .inl x] h = some (some (.inl (zb ((h.1 8 j 4 >>> (x &&& 31)) &&& 1 = 1))), h) := by
  rw [g_X8_hasHair]
  by_cases h1 : (h.1 8 j 4 >>> (x &&& 31)) &&& 1 = 1 <;> simp only [zf_pos, zf_neg, h1, zb_pos, zb_neg, not_false_eq_true]
theorem nI_in7 {c n : Nat} (h : c < n) (hn : n < 2 ^ 31) : vp_in (nI c) n := vp_in_nI h hn
theorem sp_isThere (j : Nat) {c C : Nat} (h : zH) (hC : h.1 0 0 4 = nI C) (h7 : C ≤ 7) (hc : c < C) : f_X8_isThere [.inr (.inr (8, j)), .inl (nI c)] h = some (some (.inl (zb (0 < h.1 32 j c))), h) := by
  have h1 : ¬ nI c < 0 := nI_pos (by omega)
  have h2 : nI c < nI C := nI_lt hc (by omega)
  have h3 : nI c < 7 := nI_lt (b := 7) (by omega) (by omega)
  have h4 : vp_in (nI c) 7 := vp_in_nI (by omega) (by omega)
  have h5 : (nI c).toNatClampNeg = c := nI_clamp (by omega)
  rw [g_X8_isThere, sp_hasCake, hC]
  simp only [zci_ok, zb_0, h1, h2, h3, not_false_eq_true, and_self, not_true, zf_false, zf_pos h4, h5]
  by_cases h6 : 0 < h.1 32 j c <;> simp only [zf_pos, zf_neg, h6, zb_pos, zb_neg, not_false_eq_true]
