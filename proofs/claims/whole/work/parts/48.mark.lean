/-! Undone; marks. -/
theorem q_undo {m : Nat} {h : zH} (I : Inv m h) : agree f_X11_undo f_X12_undo [.inr (.inr (11, 0))] [.inr (.inr (12, 0))] m h := by
  obtain ⟨κ, I, J⟩ := I
  have h7 := I.h7
  have J' := J
  obtain ⟨i1, i2, i3, ⟨d, n, p1, p2, p3, p4, p5, p6⟩, i5, i6, i7⟩ := J'
  by_cases e : d = 0
  · refine agree.look I J (v := 0) (h1 := h) (h2 := zuI h 12 0 0 0) ?_ quiet.rf ?_ quiet.thrown
    · rw [g_X11_undo, g_X5_giveBack, p4, zf_pos (show nI d = 0 by rw [e]; rfl), zci_ok, zf_pos (Or.inl rfl)]
    · rw [g_X12_undo, p5, zf_pos (show nI d = 0 by rw [e]; rfl)]
  · have ne : ¬ nI d = 0 := nI_ne0 (by omega) (by omega)
    have ex : nI n + 16 - 1 - (nI n + 16 - 1) / 16 * 16 = nI ((n + 15) % 16) := by
      rw [show (nI n + 16 - 1 : Int32) = nI (n + 15) by
        rw [show (16 : Int32) = nI 16 from rfl, nI_add, show (1 : Int32) = nI 1 from rfl, pk_sub (by omega)]; rfl, mod16 (by omega)]
    have hm : (n + 15) % 16 < 16 := by omega
    have ed : nI d - 1 = nI (d - 1) := by rw [show (1 : Int32) = nI 1 from rfl, pk_sub (by omega)]
    let h1 : zH := zuI (zuI h 5 0 1 (nI ((n + 15) % 16))) 5 0 2 (nI (d - 1))
    obtain ⟨s1, s2⟩ := p6 (d - 1) (by omega)
    rw [show (n + 16 - d + (d - 1)) % 16 = (n + 15) % 16 by omega] at s1
    have S1 : cS κ h1 (5 + (n + 15) % 16) (ur h (d - 1)) := s1.agr (fun K k hK => by
      have := mem4 hK
      show (zuI (zuI h 5 0 1 (nI ((n + 15) % 16))) 5 0 2 (nI (d - 1))).1 K _ k = _
      rw [zuI_o (by omega), zuI_o (by omega)])
    obtain ⟨g, e1, e2, e3⟩ := cl_copyFrom (j0 := 0) (j1 := 5 + (n + 15) % 16) h7 S1 (by omega)
    have g5 : ∀ k, g.1 5 0 k = h1.1 5 0 k := fun k => e2.1 5 0 k (by decide)
    have gg : ∀ K j k, ¬ ((K = 8 ∨ K = 31 ∨ K = 32 ∨ K = 33) ∧ j = 0) → K ≠ 5 → g.1 K j k = h.1 K j k := fun K j k q1 q2 => by
      rw [e2.1 K j k (fun q => by simp only [List.mem_cons, List.not_mem_nil, or_false, Prod.mk.injEq] at q; omega)]
      show (zuI (zuI h 5 0 1 (nI ((n + 15) % 16))) 5 0 2 (nI (d - 1))).1 K j k = _
      rw [zuI_o (by omega), zuI_o (by omega)]
    let g1 : zH := zuI (zuI g 12 0 0 0) 12 0 53 (nI (d - 1))
    obtain ⟨f, f1, f2, f3⟩ := sm_copies (K0 := 76) (K1 := 72) (a := 24 * (d - 1)) (b := 0) g1 (by decide +kernel) (by decide +kernel) (by omega) (by show 24 * (d - 1) + 24 ≤ 384; omega) (by decide +kernel) (by decide +kernel) (by decide +kernel)
    have ff : ∀ K j k, ¬ ((K = 8 ∨ K = 31 ∨ K = 32 ∨ K = 33) ∧ j = 0) → K ≠ 5 → K ≠ 72 → ¬ (K = 12 ∧ (k = 0 ∨ k = 53)) → f.1 K j k = h.1 K j k := fun K j k q1 q2 q3 q4 => by
      rw [f2.1 K j k (fun q => by simp only [List.mem_cons, List.not_mem_nil, or_false, Prod.mk.injEq] at q; omega)]
      show (zuI (zuI g 12 0 0 0) 12 0 53 (nI (d - 1))).1 K j k = _
      rw [zuI_o (by omega), zuI_o (by omega)]; exact gg K j k q1 q2
    have fg : ∀ K j k, K ≠ 72 → K ≠ 12 → f.1 K j k = g.1 K j k := fun K j k q1 q2 => by
      rw [f2.1 K j k (fun q => by simp only [List.mem_cons, List.not_mem_nil, or_false, Prod.mk.injEq] at q; omega)]
      show (zuI (zuI g 12 0 0 0) 12 0 53 (nI (d - 1))).1 K j k = _
      rw [zuI_o (by omega), zuI_o (by omega)]
    have fl : f.2 = h.2 := f2.2.trans e2.2
    have fr : ∀ k, k < 24 → f.1 72 0 k = ur h (d - 1) k := fun k hk => by
      rw [f3 k, if_pos (by omega)]
      show (zuI (zuI g 12 0 0 0) 12 0 53 (nI (d - 1))).1 76 0 (24 * (d - 1) + (k - 0)) = _
      rw [zuI_o (by omega), zuI_o (by omega), gg 76 0 _ (by omega) (by omega)]; rfl
    refine ⟨1, g, f, ?_, ?_, κ, IV.mono (m := m) ⟨I.G, I.K.agr (fun K k hK => ?_), I.M.agr I.G (fun K k hK => ?_), ?_, ?_, s2.row h7 fr⟩ (Nat.le_succ m), IW.mono (m := m) ⟨i1.agr (fun K k _ => by rw [fl]), i2.agr (fun k => by rw [fl]), i3.agr ?_ ?_ (fun K k hK => ?_), ⟨d - 1, (n + 15) % 16, by omega, hm, ?_, ?_, ?_, fun i hi => ?_⟩, i5.agr (fun K k hK => ?_) (fun K k hK => ?_), i6.agr (fun K k hK => ?_) (fun K k hK => ?_), i7.agr ?_ (fun K k hK => ?_) (fun K j k h1 h2 hK => ?_)⟩ (Nat.le_succ m)⟩
    all_goals try (simp only [List.mem_cons, List.not_mem_nil, or_false] at hK; exact ff _ _ _ (by omega) (by omega) (by omega) (by omega))
    all_goals try (exact ff _ _ _ (by omega) (by omega) (by omega) (by omega))
    · rw [g_X11_undo, g_X5_giveBack, p4, zf_neg ne, p3, ex, zfx hm (by omega), nI_clamp (by omega), ed]
      have e1 : f_X8_copyFrom [.inr (.inr (8, 0)), .inr (.inr (8, 5 + (n + 15) % 16))] (zuI (zuI h 5 0 1 (nI ((n + 15) % 16))) 5 0 2 (nI (d - 1))) = some (none, g) := e1
      rw [e1, zcv_ok, zci_ok, zf_pos (Or.inr rfl)]
    · have f1 : f_X12_copies [.inr (.inr (76, 0)), .inl (nI (24 * (d - 1))), .inr (.inr (72, 0)), .inl 0] (zuI (zuI g 12 0 0 0) 12 0 53 (nI (d - 1))) = some (none, f) := f1
      rw [g_X12_undo, gg 12 0 53 (by omega) (by omega), p5, zf_neg ne, ed, nI_mul24, f1, zcv_ok]
    · rw [ff 12 0 54 (by omega) (by omega) (by omega) (by omega)]; exact I.D
    · exact (e3.agr (fun K k hK => by have := mem4 hK; exact fg K 0 k (by omega) (by omega))).row h7 fr
    · rw [fg 5 0 1 (by omega) (by omega), g5]
      show (zuI (zuI h 5 0 1 (nI ((n + 15) % 16))) 5 0 2 (nI (d - 1))).1 5 0 1 = _
      rw [zuI_o (by omega), zuI_at]
    · rw [fg 5 0 2 (by omega) (by omega), g5]; exact zuI_at
    · rw [f2.1 12 0 53 (by decide)]; exact zuI_at
    · obtain ⟨u1, u2⟩ := p6 i (by omega)
      have eu : ur f i = ur h i := funext (fun k => ff 76 0 _ (by omega) (by omega) (by omega) (by omega))
      rw [eu, show ((n + 15) % 16 + 16 - (d - 1) + i) % 16 = (n + 16 - d + i) % 16 by omega]
      exact ⟨u1.agr (fun K k hK => by have := mem4 hK; exact ff K _ k (by omega) (by omega) (by omega) (by omega)), u2⟩
/-! pages -/
theorem zcI_o {h : zH} {K j K1 j1 n K' j' k' : Nat} (e : ¬ (K' = K1 ∧ j' = j1 ∧ k' < n)) : (zcI h K j K1 j1 n).1 K' j' k' = h.1 K' j' k' := by
  show (if K' = K1 ∧ j' = j1 ∧ k' < n then h.1 K j k' else h.1 K' j' k') = _
  rw [if_neg e]
/-- a page copied, in the class -/
theorem cl_page {κ : zK} {h : zH} {j0 j1 : Nat} {r : zRo} (h7 : kC κ ≤ 7) (S : cS κ h j1 r) (hj : j1 ≠ j0) : ∃ g, f_X4_copyFrom [.inr (.inr (4, j0)), .inr (.inr (4, j1))] h = some (none, g) ∧ g.2 = h.2 ∧ (∀ K j k, ¬ (j = j0 ∧ (K = 3 ∨ K = 7 ∨ K = 8 ∨ K = 24 ∨ K = 25 ∨ K = 26 ∨ K = 28 ∨ K = 29 ∨ K = 30 ∨ K = 31 ∨ K = 32 ∨ K = 33)) → g.1 K j k = h.1 K j k) ∧ cS κ g j0 r ∧ g.1 3 j0 0 = h.1 3 j1 0 ∧ g.1 7 j0 0 = h.1 7 j1 0 ∧ (∀ K k, K ∈ [24, 25, 26] → k < 40 → g.1 K j0 k = h.1 K j1 k) ∧ (∀ K k, K ∈ [28, 29, 30] → k < 8 → g.1 K j0 k = h.1 K j1 k) := by
  obtain ⟨g, e1, e2, e3⟩ := cl_copyFrom (j0 := j0) h7 S hj
  have a : ∀ K j k, ¬ (j = j0 ∧ (K = 8 ∨ K = 31 ∨ K = 32 ∨ K = 33)) → g.1 K j k = h.1 K j k := fun K j k q => e2.1 K j k (fun z => by simp only [List.mem_cons, List.not_mem_nil, or_false, Prod.mk.injEq] at z; omega)
  rw [g_X4_copyFrom, e1, zcv_ok, g_X3_copyFrom, zcv_ok, g_X7_copyFrom, zcv_ok]
  refine ⟨_, rfl, e2.2, fun K j k q => ?_, e3.agr (fun K k hK => ?_), ?_, ?_, fun K k hK hk => ?_, fun K k hK hk => ?_⟩
  · rw [zcI_o (by omega), zcI_o (by omega), zcI_o (by omega), zuI_o (by omega), zcI_o (by omega), zcI_o (by omega), zcI_o (by omega), zuI_o (by omega)]; exact a K j k (by omega)
  · have := mem4 hK
    rw [zcI_o (by omega), zcI_o (by omega), zcI_o (by omega), zuI_o (by omega), zcI_o (by omega), zcI_o (by omega), zcI_o (by omega), zuI_o (by omega)]
  · rw [zcI_o (by omega), zcI_o (by omega), zcI_o (by omega), zuI_o (by omega), zcI_o (by omega), zcI_o (by omega), zcI_o (by omega), zuI_at]; exact a 3 j1 0 (by omega)
  · rw [zcI_o (by omega), zcI_o (by omega), zcI_o (by omega), zuI_at, zcI_o (by omega), zcI_o (by omega), zcI_o (by omega), zuI_o (by omega)]; exact a 7 j1 0 (by omega)
  · simp only [List.mem_cons, List.not_mem_nil, or_false] at hK
    rw [zcI_o (by omega), zcI_o (by omega), zcI_o (by omega), zuI_o (by omega)]
    rcases hK with rfl | rfl | rfl
    · rw [zcI_o (by omega), zcI_o (by omega), zcI_1 hk, zuI_o (by omega)]; exact a 24 j1 k (by omega)
    · rw [zcI_o (by omega), zcI_1 hk, zcI_o (by omega), zuI_o (by omega)]; exact a 25 j1 k (by omega)
    · rw [zcI_1 hk, zcI_o (by omega), zcI_o (by omega), zuI_o (by omega)]; exact a 26 j1 k (by omega)
  · simp only [List.mem_cons, List.not_mem_nil, or_false] at hK
    rcases hK with rfl | rfl | rfl
    · rw [zcI_o (by omega), zcI_o (by omega), zcI_1 hk, zuI_o (by omega), zcI_o (by omega), zcI_o (by omega), zcI_o (by omega), zuI_o (by omega)]; exact a 28 j1 k (by omega)
    · rw [zcI_o (by omega), zcI_1 hk, zcI_o (by omega), zuI_o (by omega), zcI_o (by omega), zcI_o (by omega), zcI_o (by omega), zuI_o (by omega)]; exact a 29 j1 k (by omega)
    · rw [zcI_1 hk, zcI_o (by omega), zcI_o (by omega), zuI_o (by omega), zcI_o (by omega), zcI_o (by omega), zcI_o (by omega), zuI_o (by omega)]; exact a 30 j1 k (by omega)
theorem ml_laysLines {h : zH} {a b : Nat} (ha : a ≤ 5) (hb : b ≤ 5) (hab : a ≠ b) : ∃ g, f_X12_laysLines [.inr (.inr (12, 0)), .inl (nI a), .inl (nI b)] h = some (none, g) ∧ zsame [(64, 0), (65, 0), (66, 0), (67, 0)] h g ∧ (∀ k, g.1 64 0 k = if k = b then h.1 64 0 a else h.1 64 0 k) ∧ ∀ K k, K ∈ [65, 66, 67] → g.1 K 0 k = if 40 * b ≤ k ∧ k < 40 * b + 40 then h.1 K 0 (40 * a + (k - 40 * b)) else h.1 K 0 k := by
  have e40 : ∀ n, (40 : Int32) * nI n = nI (40 * n) := fun n => pk_mul 40 n
  rw [g_X12_laysLines, zfx (by omega) (by omega), zfx (by omega) (by omega), nI_clamp (by omega), nI_clamp (by omega)]
  obtain ⟨g, e1, e2, e3, e4⟩ := zloopE (fun i (g : zH) => zL p_X12_laysLines 14 [some (.inr (.inr (12, 0))), some (.inl (nI a)), some (.inl (nI b)), some (.inl (nI i))] [] g)
    (fun i g => zsame [(64, 0), (65, 0), (66, 0), (67, 0)] h g ∧ (∀ k, g.1 64 0 k = if k = b then h.1 64 0 a else h.1 64 0 k) ∧ ∀ K k, K ∈ [65, 66, 67] → g.1 K 0 k = if 40 * b ≤ k ∧ k < 40 * b + i then h.1 K 0 (40 * a + (k - 40 * b)) else h.1 K 0 k) 40 (zuI h 64 0 b (h.1 64 0 a)) ⟨zsame.rf.set (by simp), fun k => by
        by_cases e : k = b
        · rw [if_pos e, e, zuI_at]
        · rw [if_neg e, zuI_ne e], fun K k hK => by
        simp only [List.mem_cons, List.not_mem_nil, or_false] at hK
        rw [zuI_o (by omega), if_neg (by omega)]⟩ (fun i g hi q => by
      obtain ⟨q1, q2, q3⟩ := q
      rw [e_X12_laysLines_14, zf_pos (show nI i < 40 from nI_lt (b := 40) hi (by omega)), e40, e40, nI_add, nI_add]
      simp only [zfx (show 40 * a + i < 240 by omega) (show 240 < 2 ^ 31 by omega), zfx (show 40 * b + i < 240 by omega) (show 240 < 2 ^ 31 by omega), nI_clamp (show 40 * a + i < 2 ^ 31 by omega), nI_clamp (show 40 * b + i < 2 ^ 31 by omega), nI_1]
      have src : ∀ K, K ∈ [65, 66, 67] → g.1 K 0 (40 * a + i) = h.1 K 0 (40 * a + i) := fun K hK => by rw [q3 K _ hK, if_neg (by omega)]
      have fin : ∀ (f : zH), f = zuI (zuI (zuI g 65 0 (40 * b + i) (h.1 65 0 (40 * a + i))) 66 0 (40 * b + i) (h.1 66 0 (40 * a + i))) 67 0 (40 * b + i) (h.1 67 0 (40 * a + i)) → zsame [(64, 0), (65, 0), (66, 0), (67, 0)] h f ∧ (∀ k, f.1 64 0 k = if k = b then h.1 64 0 a else h.1 64 0 k) ∧ ∀ K k, K ∈ [65, 66, 67] → f.1 K 0 k = if 40 * b ≤ k ∧ k < 40 * b + (i + 1) then h.1 K 0 (40 * a + (k - 40 * b)) else h.1 K 0 k := fun f hf => by
        subst hf
        refine ⟨((q1.set (by simp)).set (by simp)).set (by simp), fun k => by rw [zuI_o (by omega), zuI_o (by omega), zuI_o (by omega)]; exact q2 k, fun K k hK => ?_⟩
        by_cases e : k = 40 * b + i
        · rw [if_pos (by omega), e, show 40 * a + (40 * b + i - 40 * b) = 40 * a + i by omega]
          simp only [List.mem_cons, List.not_mem_nil, or_false] at hK
          rcases hK with rfl | rfl | rfl
          · rw [zuI_o (by omega), zuI_o (by omega), zuI_at]
          · rw [zuI_o (by omega), zuI_at]
          · rw [zuI_at]
        · rw [zuI_o (by omega), zuI_o (by omega), zuI_o (by omega), q3 K k hK]
          by_cases c : 40 * b ≤ k ∧ k < 40 * b + i
          · rw [if_pos c, if_pos (by omega)]
          · rw [if_neg c, if_neg (by omega)]
      refine ⟨_, rfl, fin _ ?_⟩
      rw [src 65 (by decide), src 66 (by decide), src 67 (by decide)])
  have e1 : zL p_X12_laysLines 14 [some (.inr (.inr (12, 0))), some (.inl (nI a)), some (.inl (nI b)), some (.inl 0)] [] (zuI h 64 0 b (h.1 64 0 a)) = zL p_X12_laysLines 14 [some (.inr (.inr (12, 0))), some (.inl (nI a)), some (.inl (nI b)), some (.inl (nI 40))] [] g := e1
  refine ⟨g, ?_, e2, e3, e4⟩
  rw [e1, e_X12_laysLines_14, zf_neg (show ¬ nI 40 < 40 by decide)]
theorem ml_laysSeen {h : zH} {a b : Nat} (ha : a ≤ 4) (hb : b ≤ 4) (hab : a ≠ b) : ∃ g, f_X12_laysSeen [.inr (.inr (12, 0)), .inl (nI a), .inl (nI b)] h = some (none, g) ∧ zsame [(68, 0), (69, 0), (70, 0), (71, 0)] h g ∧ (∀ k, g.1 68 0 k = if k = b then h.1 68 0 a else h.1 68 0 k) ∧ ∀ K k, K ∈ [69, 70, 71] → g.1 K 0 k = if 8 * b ≤ k ∧ k < 8 * b + 8 then h.1 K 0 (8 * a + (k - 8 * b)) else h.1 K 0 k := by
  have e40 : ∀ n, (8 : Int32) * nI n = nI (8 * n) := fun n => pk_mul 8 n
  rw [g_X12_laysSeen, zfx (by omega) (by omega), zfx (by omega) (by omega), nI_clamp (by omega), nI_clamp (by omega)]
  obtain ⟨g, e1, e2, e3, e4⟩ := zloopE (fun i (g : zH) => zL p_X12_laysSeen 14 [some (.inr (.inr (12, 0))), some (.inl (nI a)), some (.inl (nI b)), some (.inl (nI i))] [] g)
    (fun i g => zsame [(68, 0), (69, 0), (70, 0), (71, 0)] h g ∧ (∀ k, g.1 68 0 k = if k = b then h.1 68 0 a else h.1 68 0 k) ∧ ∀ K k, K ∈ [69, 70, 71] → g.1 K 0 k = if 8 * b ≤ k ∧ k < 8 * b + i then h.1 K 0 (8 * a + (k - 8 * b)) else h.1 K 0 k) 8 (zuI h 68 0 b (h.1 68 0 a)) ⟨zsame.rf.set (by simp), fun k => by
        by_cases e : k = b
        · rw [if_pos e, e, zuI_at]
        · rw [if_neg e, zuI_ne e], fun K k hK => by
        simp only [List.mem_cons, List.not_mem_nil, or_false] at hK
        rw [zuI_o (by omega), if_neg (by omega)]⟩ (fun i g hi q => by
      obtain ⟨q1, q2, q3⟩ := q
      rw [e_X12_laysSeen_14, zf_pos (show nI i < 8 from nI_lt (b := 8) hi (by omega)), e40, e40, nI_add, nI_add]
      simp only [zfx (show 8 * a + i < 40 by omega) (show 40 < 2 ^ 31 by omega), zfx (show 8 * b + i < 40 by omega) (show 40 < 2 ^ 31 by omega), nI_clamp (show 8 * a + i < 2 ^ 31 by omega), nI_clamp (show 8 * b + i < 2 ^ 31 by omega), nI_1]
      have src : ∀ K, K ∈ [69, 70, 71] → g.1 K 0 (8 * a + i) = h.1 K 0 (8 * a + i) := fun K hK => by rw [q3 K _ hK, if_neg (by omega)]
      have fin : ∀ (f : zH), f = zuI (zuI (zuI g 69 0 (8 * b + i) (h.1 69 0 (8 * a + i))) 70 0 (8 * b + i) (h.1 70 0 (8 * a + i))) 71 0 (8 * b + i) (h.1 71 0 (8 * a + i)) → zsame [(68, 0), (69, 0), (70, 0), (71, 0)] h f ∧ (∀ k, f.1 68 0 k = if k = b then h.1 68 0 a else h.1 68 0 k) ∧ ∀ K k, K ∈ [69, 70, 71] → f.1 K 0 k = if 8 * b ≤ k ∧ k < 8 * b + (i + 1) then h.1 K 0 (8 * a + (k - 8 * b)) else h.1 K 0 k := fun f hf => by
        subst hf
        refine ⟨((q1.set (by simp)).set (by simp)).set (by simp), fun k => by rw [zuI_o (by omega), zuI_o (by omega), zuI_o (by omega)]; exact q2 k, fun K k hK => ?_⟩
        by_cases e : k = 8 * b + i
        · rw [if_pos (by omega), e, show 8 * a + (8 * b + i - 8 * b) = 8 * a + i by omega]
          simp only [List.mem_cons, List.not_mem_nil, or_false] at hK
          rcases hK with rfl | rfl | rfl
          · rw [zuI_o (by omega), zuI_o (by omega), zuI_at]
          · rw [zuI_o (by omega), zuI_at]
          · rw [zuI_at]
        · rw [zuI_o (by omega), zuI_o (by omega), zuI_o (by omega), q3 K k hK]
          by_cases c : 8 * b ≤ k ∧ k < 8 * b + i
          · rw [if_pos c, if_pos (by omega)]
          · rw [if_neg c, if_neg (by omega)]
      refine ⟨_, rfl, fin _ ?_⟩
      rw [src 69 (by decide), src 70 (by decide), src 71 (by decide)])
  have e1 : zL p_X12_laysSeen 14 [some (.inr (.inr (12, 0))), some (.inl (nI a)), some (.inl (nI b)), some (.inl 0)] [] (zuI h 68 0 b (h.1 68 0 a)) = zL p_X12_laysSeen 14 [some (.inr (.inr (12, 0))), some (.inl (nI a)), some (.inl (nI b)), some (.inl (nI 8))] [] g := e1
  refine ⟨g, ?_, e2, e3, e4⟩
  rw [e1, e_X12_laysSeen_14, zf_neg (show ¬ nI 8 < 8 by decide)]
