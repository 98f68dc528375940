/-- both read a congress -/
theorem c_both {T : zTx} {h z : zH} (ok : okT T) (B : TB h) (c1 : h.1 9 0 1 = nI T.1) (c2 : ∀ k, k < T.1 → h.1 34 0 k = nI (T.2 k)) (m1 : z.1 12 0 1 = nI T.1) (m2 : ∀ k, k < T.1 → z.1 38 0 k = nI (T.2 k)) : ∃ v gc gm, f_X6_readCongress [.inr (.inr (6, 0))] h = some (some (.inl v), gc) ∧ cgS h gc ∧ (∀ K j k, ¬ mE K k → ¬ (K = 12 ∧ k = 1) → gm.1 K j k = z.1 K j k) ∧ (∀ K j k, ¬ (K = 12 ∧ (k = 7 ∨ k = 38)) → ¬ (K = 40 ∧ 5 ≤ k) → ¬ (K = 41 ∧ 7 ≤ k) → gm.2 K j k = z.2 K j k) ∧ gm.1 12 0 1 = 0 ∧ ((v = 0 ∧ (∃ n c wp wc, Dn n c wp wc gc gm) ∧ LW gc gm ∧ f_X12_readsAll [.inr (.inr (12, 0))] z = some (some (.inl 1), gm)) ∨ (¬ v = 0 ∧ f_X12_readsAll [.inr (.inr (12, 0))] z = some (some (.inl 0), gm) ∧ gm.1 12 0 9 = v)) := by
  obtain ⟨g1, a1, a2, a3, a4, a5, a6, a7, a8⟩ := cl_clear (h := h)
  have us : f_X12_usual [.inr (.inr (12, 0)), .inl 1] z = some (none, zuI (zuI (zuI z 39 0 3 0) 39 0 4 0) 39 0 5 2) := by
    rw [g_X12_usual, show (3 : Int32) * 1 + 0 = nI 3 from by decide, show (3 : Int32) * 1 + 1 = nI 4 from by decide, show (3 : Int32) * 1 + 2 = nI 5 from by decide, zfx (by omega) (by omega), zfx (by omega) (by omega), zfx (by omega) (by omega), nI_clamp (by omega), nI_clamp (by omega), nI_clamp (by omega)]
  generalize hm0 : zuI (zuI (zuI (zuI (zuI (zuI (zuI z 39 0 3 0) 39 0 4 0) 39 0 5 2) 49 0 1 1000) 50 0 1 1000) 12 0 24 0) 12 0 23 1000 = y
  have yf : ∀ K j k, ¬ (K = 39 ∧ 3 ≤ k) → ¬ ((K = 49 ∨ K = 50) ∧ k = 1) → ¬ (K = 12 ∧ (k = 24 ∨ k = 23)) → y.1 K j k = z.1 K j k := fun K j k n1 n2 n3 => by
    rw [← hm0, zuI_o (by omega), zuI_o (by omega), zuI_o (by omega), zuI_o (by omega), zuI_o (by omega), zuI_o (by omega), zuI_o (by omega)]
  have y2 : y.2 = z.2 := by rw [← hm0]; rfl
  have e1 : (zuI (zuI g1 6 0 5 0) 6 0 6 0).1 9 0 1 = nI T.1 := by rw [zuI_o (by omega), zuI_o (by omega), a2 9 0 1 (by omega) (by omega)]; exact c1
  obtain ⟨gc, gm, b1, b2, b3, b4, b5, b6, b7⟩ := j_begin (T := T) (hc := zuI (zuI g1 6 0 5 0) 6 0 6 0) (hm := y) ok (fun i hi => by rw [zuI_2, zuI_2, a4]; exact B i hi) e1 (fun k hk => by rw [zuI_o (by omega), zuI_o (by omega), a2 34 0 k (by omega) (by omega)]; exact c2 k hk) (by rw [yf 12 0 1 (by omega) (by omega) (by omega)]; exact m1) (fun k hk => by rw [yf 38 0 k (by omega) (by omega) (by omega)]; exact m2 k hk)
  have g1c : cgS h gc := by
    have g0 : cgS h g1 := ⟨fun K j k n1 n2 n3 => a2 K j k (by omega) n1, fun K j k n1 n2 => by rw [a4]⟩
    exact g0.set6.set6.trans b3.cg
  have D : Dn 0 0 (fun _ => []) (fun _ => []) gc gm := by
    refine ⟨⟨by omega, by omega, ?_, ?_, fun q hq => by omega, fun q hq => by omega⟩, ⟨by omega, by omega, ?_, ?_, fun q hq => by omega, fun q hq => by omega⟩, ?_, fun q hq => by omega, fun q hq => by omega, ?_⟩
    · rw [b3.1 0 1 0 (by omega), zuI_o (by omega), zuI_o (by omega)]; exact a5
    · rw [b3.1 0 1 4 (by omega), zuI_o (by omega), zuI_o (by omega)]; exact a6
    · rw [b4 39 0 _ (by omega), ← hm0, zuI_o (by omega), zuI_o (by omega), zuI_o (by omega), zuI_o (by omega), zuI_o (by omega), zuI_o (by omega), zuI_at]; rfl
    · rw [b4 39 0 _ (by omega), ← hm0, zuI_o (by omega), zuI_o (by omega), zuI_o (by omega), zuI_o (by omega), zuI_o (by omega), zuI_at]; rfl
    · rw [b3.1 0 1 11 (by omega), zuI_o (by omega), zuI_o (by omega), a7, b4 39 0 5 (by omega), ← hm0, zuI_o (by omega), zuI_o (by omega), zuI_o (by omega), zuI_o (by omega), zuI_at]
    · rw [b3.1 6 0 5 (by omega), zuI_o (by omega), zuI_at, b4 12 0 24 (by omega), ← hm0, zuI_o (by omega), zuI_at]
  have W : LW gc gm := by
    refine Or.inl ⟨?_, ⟨?_, fun i hi => ?_⟩, ?_, ?_, ⟨?_, fun i hi => absurd hi (Nat.not_lt_zero i)⟩⟩
    · rw [b3.1 6 0 6 (by omega), zuI_at]
    · rw [b3.1 1 1 2 (by omega), zuI_o (by omega), zuI_o (by omega)]; exact a8.1
    · rw [b3.1 22 1 i (by omega), zuI_o (by omega), zuI_o (by omega)]; exact a8.2 i hi
    · rw [b4 49 0 1 (by omega), ← hm0, zuI_o (by omega), zuI_o (by omega), zuI_o (by omega), zuI_at]; rfl
    · rw [b4 50 0 1 (by omega), ← hm0, zuI_o (by omega), zuI_o (by omega), zuI_at]; rfl
    · rw [b4 12 0 23 (by omega), ← hm0, zuI_at]; rfl
  obtain ⟨v, fc, fm, r1, r2, r3, r4⟩ := c_loop T.1 0 0 0 0 _ _ gc gm (by omega) (by omega) b7 D W
  have eC : f_X6_readCongress [.inr (.inr (6, 0))] h = some (some (.inl v), fc) := by
    rw [g_X6_readCongress, a1, zcv_ok, b1, zcv_ok]; exact r1
  have eM : f_X12_readsAll [.inr (.inr (12, 0))] z = ml39 gm := by
    rw [g_X12_readsAll, us, zcv_ok, hm0, b2, zcv_ok]; rfl
  rw [eM]
  refine ⟨v, fc, fm, eC, g1c.trans r2, fun K j k n1 n2 => ?_, fun K j k n1 n2 n3 => ?_, ?_, r4⟩
  · rw [r3.1 K j k n1]
    unfold mE at n1
    rw [b4 K j k (by omega), yf K j k (by omega) (by omega) (by omega)]
  · rw [r3.2 K j k n1 n2 n3, b5 K j k (by omega), y2]
  · rw [r3.1 12 0 1 (by unfold mE; omega)]; exact b6
