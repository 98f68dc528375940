/-! A draft begun; a draft laid upon what was told. -/
theorem ml_shifts {K n : Nat} {h : zH} (t : zty K = 1) (hl : n + n ≤ zlen K) (h1 : zlen K < 100000) : ∃ g, f_X12_shifts [.inr (.inr (K, 0)), .inl (nI n)] h = some (none, g) ∧ zsame [(K, 0)] h g ∧ ∀ k, g.1 K 0 k = if k < n then h.1 K 0 (n + k) else h.1 K 0 k := by
  rw [g_X12_shifts]
  obtain ⟨g, e1, e2, e3⟩ := zloopE (fun i (g : zH) => zL p_X12_shifts 2 [some (.inr (.inr (K, 0))), some (.inl (nI n)), some (.inl (nI i))] [] g)
    (fun i g => zsame [(K, 0)] h g ∧ ∀ k, g.1 K 0 k = if k < i then h.1 K 0 (n + k) else h.1 K 0 k) n h ⟨zsame.rf, fun k => by rw [if_neg (by omega)]⟩ (fun i g hi q => by
      obtain ⟨q1, q2⟩ := q
      have b0 : Nat.beq (zty K) 1 = true := by rw [t]; rfl
      rw [e_X12_shifts_2, zf_pos (nI_lt hi (by omega)), b0, nI_add, nI_1]
      dsimp only
      rw [zfx (show n + i < zlen K by omega) (by omega), zfx (show i < zlen K by omega) (by omega), nI_clamp (by omega), nI_clamp (by omega)]
      refine ⟨_, rfl, q1.set (by simp), fun k => ?_⟩
      by_cases e : k = i
      · rw [e, zuI_at, if_pos (by omega), q2, if_neg (by omega)]
      · rw [zuI_ne e, q2]
        by_cases e2 : k < i
        · rw [if_pos e2, if_pos (by omega)]
        · rw [if_neg e2, if_neg (by omega)])
  refine ⟨g, ?_, e2, e3⟩
  refine e1.trans ?_
  rw [e_X12_shifts_2, zf_neg (nI_nlt' (by omega))]
/-- of longs only this kind has changed -/
def zsJ (K : Nat) (h g : zH) : Prop := g.1 = h.1 ∧ ∀ K' j' k', ¬ (K' = K ∧ j' = 0) → g.2 K' j' k' = h.2 K' j' k'
theorem ml_shiftsNames {K n : Nat} {h : zH} (t : zty K = 2) (hl : n + n ≤ zlen K) (h1 : zlen K < 100000) : ∃ g, f_X12_shiftsNames [.inr (.inr (K, 0)), .inl (nI n)] h = some (none, g) ∧ zsJ K h g ∧ ∀ k, g.2 K 0 k = if k < n then h.2 K 0 (n + k) else h.2 K 0 k := by
  rw [g_X12_shiftsNames]
  obtain ⟨g, e1, e2, e3⟩ := zloopE (fun i (g : zH) => zL p_X12_shiftsNames 2 [some (.inr (.inr (K, 0))), some (.inl (nI n)), some (.inl (nI i))] [] g)
    (fun i g => zsJ K h g ∧ ∀ k, g.2 K 0 k = if k < i then h.2 K 0 (n + k) else h.2 K 0 k) n h ⟨⟨rfl, fun _ _ _ _ => rfl⟩, fun k => by rw [if_neg (by omega)]⟩ (fun i g hi q => by
      obtain ⟨q1, q2⟩ := q
      have b0 : Nat.beq (zty K) 2 = true := by rw [t]; rfl
      rw [e_X12_shiftsNames_2, zf_pos (nI_lt hi (by omega)), b0, nI_add, nI_1]
      dsimp only
      rw [zfx (show n + i < zlen K by omega) (by omega), zfx (show i < zlen K by omega) (by omega), nI_clamp (by omega), nI_clamp (by omega)]
      refine ⟨_, rfl, ⟨q1.1, fun K' j' k' n => by rw [zuJ_o (by omega)]; exact q1.2 K' j' k' n⟩, fun k => ?_⟩
      by_cases e : k = i
      · rw [e, zuJ_at, if_pos (by omega), q2, if_neg (by omega)]
      · rw [zuJ_o (by omega), q2]
        by_cases e2 : k < i
        · rw [if_pos e2, if_pos (by omega)]
        · rw [if_neg e2, if_neg (by omega)])
  refine ⟨g, ?_, e2, e3⟩
  refine e1.trans ?_
  rw [e_X12_shiftsNames_2, zf_neg (nI_nlt' (by omega))]
/-- the class begins a draft -/
theorem cl_clear {h : zH} : ∃ g, f_X0_clear [.inr (.inr (0, 1))] h = some (none, g) ∧ (∀ K j k, ¬ (j = 1 ∧ (K = 0 ∨ K = 1 ∨ K = 22)) → ¬ (K = 10 ∧ j = 0) → g.1 K j k = h.1 K j k) ∧ (∀ k, g.1 10 0 k = h.1 10 0 k) ∧ g.2 = h.2 ∧ g.1 0 1 0 = 0 ∧ g.1 0 1 4 = 0 ∧ g.1 0 1 11 = 2 ∧ stC g usl := by
  rw [g_X0_clear, g_X1_tellUsual, g_X1_clear, zcv_ok]
  let a : zH := zuI (zuI (zuI (zuI h 0 1 0 0) 0 1 4 0) 0 1 11 2) 1 1 2 0
  have s0 : stC a [] := ⟨zuI_at, fun i hi => absurd hi (Nat.not_lt_zero i)⟩
  obtain ⟨b1, p1, q1, r1, u1, w1⟩ := cl_add (s := 1) s0 (by decide)
  obtain ⟨b2, p2, q2, r2, u2, w2⟩ := cl_add (s := zm2) q1 (by decide)
  obtain ⟨b3, p3, q3, r3, u3, w3⟩ := cl_add (s := zm3) q2 (by decide)
  obtain ⟨b4, p4, q4, r4, u4, w4⟩ := cl_add (s := zm8) q3 (by decide)
  obtain ⟨b5, p5, q5, r5, u5, w5⟩ := cl_add (s := zm10) q4 (by decide)
  have p1 : f_X1_add [.inr (.inr (1, 1)), .inl 1] (zuI (zuI (zuI (zuI h 0 1 0 0) 0 1 4 0) 0 1 11 2) 1 1 2 0) = some (none, b1) := p1
  rw [p1, zcv_ok, p2, zcv_ok, p3, zcv_ok, p4, zcv_ok, p5, zcv_ok, zcv_ok]
  have f : exS a b5 := (((r1.trans r2).trans r3).trans r4).trans r5
  refine ⟨b5, rfl, fun K j k n1 n2 => ?_, fun k => ?_, ?_, ?_, ?_, ?_, q5⟩
  · rw [f.1 K j k n2 (by omega)]
    show (zuI (zuI (zuI (zuI h 0 1 0 0) 0 1 4 0) 0 1 11 2) 1 1 2 0).1 K j k = _
    rw [zuI_o (by omega), zuI_o (by omega), zuI_o (by omega), zuI_o (by omega)]
  · rw [u5, u4, u3, u2, u1]
    show (zuI (zuI (zuI (zuI h 0 1 0 0) 0 1 4 0) 0 1 11 2) 1 1 2 0).1 10 0 k = _
    rw [zuI_o (by omega), zuI_o (by omega), zuI_o (by omega), zuI_o (by omega)]
  · rw [w5, w4, w3, w2, w1]; rfl
  · rw [f.1 0 1 0 (by omega) (by omega)]
    show (zuI (zuI (zuI (zuI h 0 1 0 0) 0 1 4 0) 0 1 11 2) 1 1 2 0).1 0 1 0 = _
    rw [zuI_o (by omega), zuI_o (by omega), zuI_o (by omega), zuI_at]
  · rw [f.1 0 1 4 (by omega) (by omega)]
    show (zuI (zuI (zuI (zuI h 0 1 0 0) 0 1 4 0) 0 1 11 2) 1 1 2 0).1 0 1 4 = _
    rw [zuI_o (by omega), zuI_o (by omega), zuI_at]
  · rw [f.1 0 1 11 (by omega) (by omega)]
    show (zuI (zuI (zuI (zuI h 0 1 0 0) 0 1 4 0) 0 1 11 2) 1 1 2 0).1 0 1 11 = _
    rw [zuI_o (by omega), zuI_at]
/-- half of each of these kinds -/
def hf (K : Nat) : Nat := if K = 39 then 3 else if K = 42 ∨ K = 43 then 5 else if K = 51 then 1000 else 7
theorem ml_laysAll {h : zH} : ∃ g, f_X12_lays [.inr (.inr (12, 0))] h = some (none, g) ∧ (∀ K j k, ¬ (j = 0 ∧ (K = 39 ∨ (42 ≤ K ∧ K ≤ 51))) → g.1 K j k = h.1 K j k) ∧ (∀ K j k, ¬ (j = 0 ∧ (K = 40 ∨ K = 41)) → g.2 K j k = h.2 K j k) ∧ (∀ K k, K = 39 ∨ (42 ≤ K ∧ K ≤ 48) ∨ K = 51 → k < hf K → g.1 K 0 k = h.1 K 0 (hf K + k)) ∧ (∀ k, k < 5 → g.2 40 0 k = h.2 40 0 (5 + k)) ∧ (∀ k, k < 7 → g.2 41 0 k = h.2 41 0 (7 + k)) ∧ g.1 49 0 0 = h.1 49 0 1 - 1000 ∧ g.1 50 0 0 = h.1 50 0 1 - 1000 := by
  obtain ⟨h1, a1, b1, c1⟩ := ml_shifts (K := 39) (n := 3) (h := h) (by decide +kernel) (by decide +kernel) (by decide +kernel)
  obtain ⟨h2, a2, b2, c2⟩ := ml_shiftsNames (K := 40) (n := 5) (h := h1) (by decide +kernel) (by decide +kernel) (by decide +kernel)
  obtain ⟨h3, a3, b3, c3⟩ := ml_shiftsNames (K := 41) (n := 7) (h := h2) (by decide +kernel) (by decide +kernel) (by decide +kernel)
  obtain ⟨h4, a4, b4, c4⟩ := ml_shifts (K := 42) (n := 5) (h := h3) (by decide +kernel) (by decide +kernel) (by decide +kernel)
  obtain ⟨h5, a5, b5, c5⟩ := ml_shifts (K := 43) (n := 5) (h := h4) (by decide +kernel) (by decide +kernel) (by decide +kernel)
  obtain ⟨h6, a6, b6, c6⟩ := ml_shifts (K := 44) (n := 7) (h := h5) (by decide +kernel) (by decide +kernel) (by decide +kernel)
  obtain ⟨h7, a7, b7, c7⟩ := ml_shifts (K := 45) (n := 7) (h := h6) (by decide +kernel) (by decide +kernel) (by decide +kernel)
  obtain ⟨h8, a8, b8, c8⟩ := ml_shifts (K := 46) (n := 7) (h := h7) (by decide +kernel) (by decide +kernel) (by decide +kernel)
  obtain ⟨h9, a9, b9, c9⟩ := ml_shifts (K := 47) (n := 7) (h := h8) (by decide +kernel) (by decide +kernel) (by decide +kernel)
  obtain ⟨h10, a10, b10, c10⟩ := ml_shifts (K := 48) (n := 7) (h := h9) (by decide +kernel) (by decide +kernel) (by decide +kernel)
  obtain ⟨h11, a11, b11, c11⟩ := ml_shifts (K := 51) (n := 1000) (h := h10) (by decide +kernel) (by decide +kernel) (by decide +kernel)
  have a1 : f_X12_shifts [.inr (.inr (39, 0)), .inl 3] h = some (none, h1) := a1
  have a2 : f_X12_shiftsNames [.inr (.inr (40, 0)), .inl 5] h1 = some (none, h2) := a2
  have a3 : f_X12_shiftsNames [.inr (.inr (41, 0)), .inl 7] h2 = some (none, h3) := a3
  have a4 : f_X12_shifts [.inr (.inr (42, 0)), .inl 5] h3 = some (none, h4) := a4
  have a5 : f_X12_shifts [.inr (.inr (43, 0)), .inl 5] h4 = some (none, h5) := a5
  have a6 : f_X12_shifts [.inr (.inr (44, 0)), .inl 7] h5 = some (none, h6) := a6
  have a7 : f_X12_shifts [.inr (.inr (45, 0)), .inl 7] h6 = some (none, h7) := a7
  have a8 : f_X12_shifts [.inr (.inr (46, 0)), .inl 7] h7 = some (none, h8) := a8
  have a9 : f_X12_shifts [.inr (.inr (47, 0)), .inl 7] h8 = some (none, h9) := a9
  have a10 : f_X12_shifts [.inr (.inr (48, 0)), .inl 7] h9 = some (none, h10) := a10
  have a11 : f_X12_shifts [.inr (.inr (51, 0)), .inl 1000] h10 = some (none, h11) := a11
  have ns : ∀ {K : Nat} {a b : zH}, zsame [(K, 0)] a b → ∀ K' j k, ¬ (K' = K ∧ j = 0) → b.1 K' j k = a.1 K' j k := fun q K' j k n => q.1 K' j k (fun z => by rw [List.mem_singleton, Prod.mk.injEq] at z; exact n z)
  have fr : ∀ K' j k, ¬ (j = 0 ∧ (K' = 39 ∨ (42 ≤ K' ∧ K' ≤ 48) ∨ K' = 51)) → h11.1 K' j k = h.1 K' j k := fun K' j k n => by
    rw [ns b11 K' j k (by omega), ns b10 K' j k (by omega), ns b9 K' j k (by omega), ns b8 K' j k (by omega), ns b7 K' j k (by omega), ns b6 K' j k (by omega), ns b5 K' j k (by omega), ns b4 K' j k (by omega), b3.1, b2.1, ns b1 K' j k (by omega)]
  have j2 : h11.2 = h3.2 := by rw [b11.2, b10.2, b9.2, b8.2, b7.2, b6.2, b5.2, b4.2]
  refine ⟨zuI (zuI h11 49 0 0 (h11.1 49 0 1 - 1000)) 50 0 0 (h11.1 50 0 1 - 1000), ?_, fun K j k n => ?_, fun K j k n => ?_, fun K k hK hk => ?_, fun k hk => ?_, fun k hk => ?_, ?_, ?_⟩
  · rw [g_X12_lays, a1, zcv_ok, a2, zcv_ok, a3, zcv_ok, a4, zcv_ok, a5, zcv_ok, a6, zcv_ok, a7, zcv_ok, a8, zcv_ok, a9, zcv_ok, a10, zcv_ok, a11, zcv_ok]
  · rw [zuI_o (by omega), zuI_o (by omega), fr K j k (by omega)]
  · rw [zuI_2, zuI_2, j2, b3.2 K j k (by omega), b2.2 K j k (by omega), b1.2]
  · rw [zuI_o (by omega), zuI_o (by omega)]
    have hK2 : K = 39 ∨ K = 42 ∨ K = 43 ∨ K = 44 ∨ K = 45 ∨ K = 46 ∨ K = 47 ∨ K = 48 ∨ K = 51 := by omega
    unfold hf at hk ⊢
    rcases hK2 with rfl | rfl | rfl | rfl | rfl | rfl | rfl | rfl | rfl
    · simp only [if_true] at hk ⊢
      rw [ns b11 39 0 k (by omega), ns b10 39 0 k (by omega), ns b9 39 0 k (by omega), ns b8 39 0 k (by omega), ns b7 39 0 k (by omega), ns b6 39 0 k (by omega), ns b5 39 0 k (by omega), ns b4 39 0 k (by omega), b3.1, b2.1, c1, if_pos hk]
    · simp at hk ⊢
      rw [ns b11 42 0 k (by omega), ns b10 42 0 k (by omega), ns b9 42 0 k (by omega), ns b8 42 0 k (by omega), ns b7 42 0 k (by omega), ns b6 42 0 k (by omega), ns b5 42 0 k (by omega), c4, if_pos hk, b3.1, b2.1, ns b1 42 0 _ (by omega)]
    · simp at hk ⊢
      rw [ns b11 43 0 k (by omega), ns b10 43 0 k (by omega), ns b9 43 0 k (by omega), ns b8 43 0 k (by omega), ns b7 43 0 k (by omega), ns b6 43 0 k (by omega), c5, if_pos hk, ns b4 43 0 _ (by omega), b3.1, b2.1, ns b1 43 0 _ (by omega)]
    · simp at hk ⊢
      rw [ns b11 44 0 k (by omega), ns b10 44 0 k (by omega), ns b9 44 0 k (by omega), ns b8 44 0 k (by omega), ns b7 44 0 k (by omega), c6, if_pos hk, ns b5 44 0 _ (by omega), ns b4 44 0 _ (by omega), b3.1, b2.1, ns b1 44 0 _ (by omega)]
    · simp at hk ⊢
      rw [ns b11 45 0 k (by omega), ns b10 45 0 k (by omega), ns b9 45 0 k (by omega), ns b8 45 0 k (by omega), c7, if_pos hk, ns b6 45 0 _ (by omega), ns b5 45 0 _ (by omega), ns b4 45 0 _ (by omega), b3.1, b2.1, ns b1 45 0 _ (by omega)]
    · simp at hk ⊢
      rw [ns b11 46 0 k (by omega), ns b10 46 0 k (by omega), ns b9 46 0 k (by omega), c8, if_pos hk, ns b7 46 0 _ (by omega), ns b6 46 0 _ (by omega), ns b5 46 0 _ (by omega), ns b4 46 0 _ (by omega), b3.1, b2.1, ns b1 46 0 _ (by omega)]
    · simp at hk ⊢
      rw [ns b11 47 0 k (by omega), ns b10 47 0 k (by omega), c9, if_pos hk, ns b8 47 0 _ (by omega), ns b7 47 0 _ (by omega), ns b6 47 0 _ (by omega), ns b5 47 0 _ (by omega), ns b4 47 0 _ (by omega), b3.1, b2.1, ns b1 47 0 _ (by omega)]
    · simp at hk ⊢
      rw [ns b11 48 0 k (by omega), c10, if_pos hk, ns b9 48 0 _ (by omega), ns b8 48 0 _ (by omega), ns b7 48 0 _ (by omega), ns b6 48 0 _ (by omega), ns b5 48 0 _ (by omega), ns b4 48 0 _ (by omega), b3.1, b2.1, ns b1 48 0 _ (by omega)]
    · simp at hk ⊢
      rw [c11, if_pos hk, ns b10 51 0 _ (by omega), ns b9 51 0 _ (by omega), ns b8 51 0 _ (by omega), ns b7 51 0 _ (by omega), ns b6 51 0 _ (by omega), ns b5 51 0 _ (by omega), ns b4 51 0 _ (by omega), b3.1, b2.1, ns b1 51 0 _ (by omega)]
  · rw [zuI_2, zuI_2, j2, b3.2 40 0 k (by omega), c2, if_pos hk, b1.2]
  · rw [zuI_2, zuI_2, j2, c3, if_pos hk, b2.2 41 0 _ (by omega), b1.2]
  · rw [zuI_o (by omega), zuI_at, fr 49 0 1 (by omega)]
  · rw [zuI_at, fr 50 0 1 (by omega)]
