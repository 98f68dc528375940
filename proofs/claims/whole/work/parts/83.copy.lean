theorem zcJ_o {h : zH} {K j K1 j1 n K' j' k' : Nat} (e : ¬ (K' = K1 ∧ j' = j1 ∧ k' < n)) : (zcJ h K j K1 j1 n).2 K' j' k' = h.2 K' j' k' := by
  show (if K' = K1 ∧ j' = j1 ∧ k' < n then h.2 K j k' else h.2 K' j' k') = _
  rw [if_neg e]
theorem zcJ_1 {h : zH} {K j K1 j1 n k : Nat} (hk : k < n) : (zcJ h K j K1 j1 n).2 K1 j1 k = h.2 K j k := by
  show (if K1 = K1 ∧ j1 = j1 ∧ k < n then h.2 K j k else h.2 K1 j1 k) = _
  rw [if_pos ⟨rfl, rfl, hk⟩]
theorem zcJ_f {h : zH} {K j K1 j1 n : Nat} : (zcJ h K j K1 j1 n).1 = h.1 := rfl
theorem zcI_f {h : zH} {K j K1 j1 n : Nat} : (zcI h K j K1 j1 n).2 = h.2 := rfl
def ln9 (K : Nat) : Nat := if K = 14 ∨ K = 15 then 5 else if K = 22 then 1000 else 7
/-- the class lays its draft -/
theorem cl_copyC {h : zH} : ∃ g, f_X0_copyFrom [.inr (.inr (0, 0)), .inr (.inr (0, 1))] h = some (none, g) ∧ (∀ K j k, ¬ (j = 0 ∧ (K ≤ 1 ∨ (13 ≤ K ∧ K ≤ 22))) → g.1 K j k = h.1 K j k) ∧ (∀ K j k, ¬ (j = 0 ∧ (K = 13 ∨ K = 16)) → g.2 K j k = h.2 K j k) ∧ g.1 0 0 0 = h.1 0 1 0 ∧ g.1 0 0 4 = h.1 0 1 4 ∧ g.1 0 0 11 = h.1 0 1 11 ∧ g.1 1 0 2 = h.1 1 1 2 ∧ (∀ k, k < 5 → g.1 14 0 k = h.1 14 1 k ∧ g.1 15 0 k = h.1 15 1 k) ∧ (∀ k, k < 7 → g.1 17 0 k = h.1 17 1 k ∧ g.1 18 0 k = h.1 18 1 k ∧ g.1 19 0 k = h.1 19 1 k ∧ g.1 20 0 k = h.1 20 1 k ∧ g.1 21 0 k = h.1 21 1 k) ∧ (∀ k, k < 1000 → g.1 22 0 k = h.1 22 1 k) ∧ (∀ k, k < 5 → g.2 13 0 k = h.2 13 1 k) ∧ (∀ k, k < 7 → g.2 16 0 k = h.2 16 1 k) := by
  rw [g_X0_copyFrom, g_X1_copyFrom, zcv_ok]
  refine ⟨_, rfl, fun K j k n => ?_, fun K j k n => ?_, ?_, ?_, ?_, ?_, fun k hk => ⟨?_, ?_⟩, fun k hk => ⟨?_, ?_, ?_, ?_, ?_⟩, fun k hk => ?_, fun k hk => ?_, fun k hk => ?_⟩
  all_goals try (repeat (first | rw [zcI_o (by omega)] | rw [zuI_o (by omega)] | rw [zuI_at] | rw [zcI_1 hk] | rw [zcJ_f]))
  all_goals try (repeat (first | rw [zcJ_1 hk] | rw [zcJ_o (by omega)] | rw [zcI_f] | rw [zuI_2]))
