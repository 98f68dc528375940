/-! The years are told. -/
theorem TP.tx {h : zH} (q : TP h) : ∃ T : zTx, okT T ∧ h.1 9 0 1 = nI T.1 ∧ h.1 12 0 1 = nI T.1 ∧ ∀ k, k < T.1 → h.1 34 0 k = nI (T.2 k) ∧ h.1 38 0 k = nI (T.2 k) := by
  obtain ⟨n, q1, q2, q3, q4⟩ := q
  have : ∃ t : Nat → Nat, ∀ k, k < n → okS (t k) ∧ h.1 34 0 k = nI (t k) ∧ h.1 38 0 k = nI (t k) :=
    ⟨fun k => @dite _ (k < n) (Classical.propDecidable _) (fun z => Classical.choose (q4 k z)) (fun _ => 0), fun k hk => by
      dsimp only
      rw [dif_pos hk]; exact Classical.choose_spec (q4 k hk)⟩
  obtain ⟨t, ht⟩ := this
  exact ⟨(n, t), ⟨q1, fun k hk => (ht k hk).1⟩, q2, q3, fun k hk => (ht k hk).2⟩
theorem j_begin {T : zTx} {hc hm : zH} (ok : okT T) (B : TB hc) (c1 : hc.1 9 0 1 = nI T.1) (c2 : ∀ k, k < T.1 → hc.1 34 0 k = nI (T.2 k)) (m1 : hm.1 12 0 1 = nI T.1) (m2 : ∀ k, k < T.1 → hm.1 38 0 k = nI (T.2 k)) : ∃ gc gm, f_X10_begin [.inr (.inr (10, 0))] hc = some (none, gc) ∧ f_X12_begins [.inr (.inr (12, 0))] hm = some (none, gm) ∧ tkS hc gc ∧ (∀ K j k, ¬ (K = 12 ∧ j = 0 ∧ (k = 1 ∨ k = 3 ∨ k = 4 ∨ k = 5 ∨ k = 6 ∨ k = 8)) → gm.1 K j k = hm.1 K j k) ∧ (∀ K j k, ¬ (K = 12 ∧ j = 0 ∧ k = 7) → gm.2 K j k = hm.2 K j k) ∧ gm.1 12 0 1 = 0 ∧ RD T 0 gc gm := by
  rw [g_X10_begin, g_X12_begins, m1]
  have X : txC T (zuI (zuI hc 10 0 2 0) 10 0 7 0) := tkS.rf.set.set.tx ⟨ok, c1, c2⟩
  have tbx : TB (zuI (zuI hc 10 0 2 0) 10 0 7 0) := B
  obtain ⟨gc, a1, a2, a3⟩ := cl_step (p := 0) X tbx (Nat.zero_le _) (by rw [zuI_o (by omega), zuI_at]; rfl) zuI_at
  have Xm : txM T (zuI (zuI (zuI hm 12 0 3 (nI T.1)) 12 0 1 0) 12 0 4 0) := ⟨ok, by rw [zuI_o (by omega), zuI_o (by omega), zuI_at], fun k hk => by rw [zuI_o (by omega), zuI_o (by omega), zuI_o (by omega)]; exact m2 k hk⟩
  obtain ⟨gm, b1, b2, b3⟩ := ml_next (p := 0) Xm (Nat.zero_le _) (by rw [zuI_at]; rfl)
  rw [a1, b1, zcv_ok, zcv_ok]
  refine ⟨gc, gm, rfl, rfl, (tkS.rf.set.set).trans a2, fun K j k n => ?_, fun K j k n => ?_, ?_, a2.tx X, a2.tb tbx, b2.tx Xm, Nat.zero_le _, a3, b3⟩
  · rw [b2.1 K j k (by omega), zuI_o (by omega), zuI_o (by omega), zuI_o (by omega)]
  · rw [b2.2 K j k n]; rfl
  · rw [b2.1 12 0 1 (by omega), zuI_o (by omega), zuI_at]
/-- all lines -/
theorem y_loop {T : zTx} {κ : zK} {n c : Nat} {wp wc : Nat → List Nat} (hn : kP κ = n) (hcc : kC κ = c) : ∀ (d p x k : Nat) (hc hm : zH), T.1 - p ≤ d → x ≤ p → RD T p hc hm → L2 κ k hc hm → nmC 0 n c wp wc hc → nmM 0 n c wp wc hm → ∃ v gc gm, zL p_X6_readYears 17 [some (.inr (.inr (6, 0))), some (.inl (nI x))] [] hc = some (some (.inl v), gc) ∧ lnS hc gc ∧ lmS hm gm ∧ ((v = 0 ∧ (∃ k', L2 κ k' gc gm) ∧ zL p_X12_years 16 [some (.inr (.inr (12, 0)))] [] hm = zL p_X12_years 16 [some (.inr (.inr (12, 0)))] [] gm ∧ gm.1 12 0 6 = 0) ∨ (¬ v = 0 ∧ zL p_X12_years 16 [some (.inr (.inr (12, 0)))] [] hm = some (some (.inl v), gm))) := by
  intro d
  induction d with
  | zero =>
    intro p x k hc hm hd hx R L NC N
    have k0 : kK T p = 0 := kK_0.mpr (Nat.le_antisymm (kB_le R.le) (by have := kB_ge (T := T) (p := p); omega))
    refine ⟨0, hc, hm, ?_, tkS.rf.ln, lmS.rf, Or.inl ⟨rfl, ⟨k, L⟩, rfl, by rw [R.tm.2.2.1, k0]; rfl⟩⟩
    rw [e_X6_readYears_17, g_X10_isMore, zf_pos R.tc.1, zf_pos ((R.tc.kind (k := 0) (by omega) 0 rfl).mpr k0), zci_ok, zf_pos rfl, R.tc.1]
    by_cases e : nI x < 1000
    · rw [zf_pos e]
    · rw [zf_neg e]
  | succ d ih =>
    intro p x k hc hm hd hx R L NC N
    by_cases k0 : kK T p = 0
    · refine ⟨0, hc, hm, ?_, tkS.rf.ln, lmS.rf, Or.inl ⟨rfl, ⟨k, L⟩, rfl, by rw [R.tm.2.2.1, k0]; rfl⟩⟩
      rw [e_X6_readYears_17, g_X10_isMore, zf_pos R.tc.1, zf_pos ((R.tc.kind (k := 0) (by omega) 0 rfl).mpr k0), zci_ok, zf_pos rfl, R.tc.1]
      by_cases e : nI x < 1000
      · rw [zf_pos e]
      · rw [zf_neg e]
    · have t1 := R.t1
      have lt : p < T.1 := by
        have := kB_ge (T := T) (p := p)
        have := kB_le R.le
        have : kB T p ≠ T.1 := fun z => k0 (kK_0.mpr z)
        omega
      have l6 : ¬ hm.1 12 0 6 = 0 := fun z => k0 ((R.tm.kind (k := 0) (by omega) 0 rfl).mp z)
      obtain ⟨gc, gm, a1, a2, a3, a4⟩ := j_line R L NC N hn hcc
      have st : zL p_X6_readYears 17 [some (.inr (.inr (6, 0))), some (.inl (nI x))] [] hc = zL p_X6_readYears 17 [some (.inr (.inr (6, 0))), some (.inl (nI (x + 1)))] [] gc := by
        rw [e_X6_readYears_17, zf_pos (show nI x < 1000 from nI_lt (b := 1000) (by omega) (by omega)), g_X10_isMore, zf_pos R.tc.1, zf_neg (fun z => k0 ((R.tc.kind (k := 0) (by omega) 0 rfl).mp z)), zci_ok, zf_neg (by decide), a1, zcv_ok, nI_1]
      rw [st]
      rcases a4 with ⟨b1, b2, p', b3, b4, b5⟩ | ⟨b1, F, b2, b3⟩
      · obtain ⟨v, fc, fm, c1, c2, c3, c4⟩ := ih p' (x + 1) (k + 1) gc gm (by omega) (by omega) b4 b5 (NC.kc a2) (N.kc a3)
        have sm : zL p_X12_years 16 [some (.inr (.inr (12, 0)))] [] hm = zL p_X12_years 16 [some (.inr (.inr (12, 0)))] [] gm := by
          rw [e_X12_years_16, zf_neg l6, b1, zci_ok, zf_neg (by decide)]
        rw [sm]
        exact ⟨v, fc, fm, c1, a2.trans c2, a3.trans c3, c4⟩
      · refine ⟨nI F, gc, gm, ?_, a2, a3, Or.inr ⟨fun z => b2.ne (by rw [b2.1]; exact z), ?_⟩⟩
        · rw [e_X6_readYears_17, fl_isMore b2.ne, zci_ok, zf_pos rfl, b2.1]
          by_cases e : nI (x + 1) < 1000
          · rw [zf_pos e]
          · rw [zf_neg e]
        · rw [e_X12_years_16, zf_neg l6, b1, zci_ok, zf_pos rfl, b3]
