/-! What holds before the first call. -/
theorem h1_at {K j k : Nat} (hK : K ≠ 39) : h1_.1 K j k = h0_.1 K j k := by
  unfold h1_
  rw [zuI_o (by omega), zuI_o (by omega), zuI_o (by omega)]
theorem h1_2 : h1_.2 = h0_.2 := rfl
theorem h1_0 {K j k : Nat} (hK : K ≠ 39 ∧ K ≠ 22 ∧ K ≠ 1 ∧ K ≠ 0) : h1_.1 K j k = 0 := by
  rw [h1_at hK.1]
  show (bif Nat.beq K 22 then us5 k else bif Nat.beq K 1 && Nat.beq k 2 then 5 else bif Nat.beq K 0 && Nat.beq k 11 then 2 else 0) = (0 : Int32)
  rw [show Nat.beq K 22 = false from Bool.eq_false_iff.mpr (fun q => hK.2.1 (Nat.eq_of_beq_eq_true q)), show Nat.beq K 1 = false from Bool.eq_false_iff.mpr (fun q => hK.2.2.1 (Nat.eq_of_beq_eq_true q)), show Nat.beq K 0 = false from Bool.eq_false_iff.mpr (fun q => hK.2.2.2 (Nat.eq_of_beq_eq_true q))]
  rfl
theorem h1_n {K j k : Nat} (hK : K ≠ 39 ∧ K ≠ 22 ∧ K ≠ 1 ∧ K ≠ 0) : h1_.1 K j k = nI 0 := (h1_0 hK).trans nI_0.symm
noncomputable def k0_ : zK := ((0, 0, 2), (fun _ => 0, fun _ => 0), (fun _ => 0, fun _ => 0, fun _ => 0, fun _ => 0, fun _ => 0), fun _ b c _ => 1 + zb (b < c))
theorem k0_P : kP k0_ = 0 := rfl
theorem k0_C : kC k0_ = 0 := rfl
theorem noP {q : Nat} {α : Prop} (h : q < kP k0_) : α := absurd h (Nat.not_lt_zero _)
theorem noC {q : Nat} {α : Prop} (h : q < kC k0_) : α := absurd h (Nat.not_lt_zero _)
theorem inv0_c : cK k0_ h1_ := by
  refine ⟨?_, Nat.zero_le _, ?_, Nat.zero_le _, ?_, fun q hq => noP hq, fun c hc => noC hc, 5, by omega, ?_, ?_⟩
  · rw [h1_at (by decide)]; exact nI_0.symm
  · rw [h1_at (by decide)]; exact nI_0.symm
  · rw [h1_at (by decide)]; rfl
  · rw [h1_at (by decide)]; rfl
  · intro a b c d
    refine law_c (S := usl) (fun i hi => ?_) usl_v a b c d
    rw [h1_at (by decide)]
    have hi : i < 5 := hi
    match i, hi with
    | 0, _ => rfl
    | 1, _ => rfl
    | 2, _ => rfl
    | 3, _ => rfl
    | 4, _ => rfl
theorem inv0_m : mK k0_ h1_ := by
  refine ⟨?_, ?_, ?_, fun q hq => noP hq, fun c hc => noC hc, Or.inr ⟨?_, fun a b c d => rfl⟩⟩
  · unfold h1_; rw [zuI_o (by omega), zuI_o (by omega), zuI_at]; exact nI_0.symm
  · unfold h1_; rw [zuI_o (by omega), zuI_at]; exact nI_0.symm
  · unfold h1_; rw [zuI_at]; rfl
  · rw [h1_0 (by decide), h1_0 (by decide)]; decide
theorem inv0 : Inv 0 h1_ := by
  refine ⟨k0_, ⟨⟨Nat.zero_le _, Nat.zero_le _, fun c hc => noC hc⟩, inv0_c, inv0_m, h1_0 (by decide), ⟨?_, ?_, ?_, fun c hc => noC hc⟩, ⟨fun c hc => noC hc, fun c _ _ => h1_0 (by decide)⟩⟩, ⟨⟨fun _ => [], fun _ => [], fun q hq => noP hq, fun c hc => noC hc⟩, ?_, ?_, ?_, ?_, ?_, ?_⟩⟩
  · rw [h1_0 (by decide), h1_0 (by decide)]
  · rw [h1_0 (by decide), h1_0 (by decide)]
  · rw [h1_0 (by decide), h1_0 (by decide)]
  · intro i hi
    rw [h1_2]
    show (bif Nat.blt i 27 then lN (enc 32 (kws.getD i [])) else 0) = _
    rw [show Nat.blt i 27 = true from Nat.ble_eq.mpr hi]
    rfl
  · exact ⟨0, by omega, h1_n (by decide), h1_n (by decide), fun k hk => absurd hk (Nat.not_lt_zero _)⟩
  · exact ⟨0, 0, by omega, by omega, h1_n (by decide), h1_n (by decide), h1_n (by decide), fun i hi => absurd hi (Nat.not_lt_zero _)⟩
  · exact ⟨0, by omega, h1_n (by decide), h1_n (by decide), fun k hk => absurd hk (Nat.not_lt_zero _)⟩
  · exact ⟨0, by omega, h1_n (by decide), h1_n (by decide), fun k hk => absurd hk (Nat.not_lt_zero _)⟩
  · intro i hi
    refine Or.inr ⟨?_, h1_0 (by decide)⟩
    rw [h1_0 (by decide)]
    match i, hi with
    | 0, _ => unfold tb; decide
    | 1, _ => unfold tb; decide
    | 2, _ => unfold tb; decide
    | 3, _ => unfold tb; decide
