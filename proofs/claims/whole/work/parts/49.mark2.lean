/-! A mark is laid, gone back to. -/
theorem LN.copy {κ : zK} {h f : zH} {a b : Nat} (q : LN κ h a) (c3 : f.1 3 b 0 = h.1 3 a 0) (cl : ∀ K k, K ∈ [24, 25, 26] → k < 40 → f.1 K b k = h.1 K a k) (m64 : f.1 64 0 b = h.1 64 0 a) (ml : ∀ K k, K ∈ [65, 66, 67] → k < 40 → f.1 K 0 (40 * b + k) = h.1 K 0 (40 * a + k)) : LN κ f b := by
  obtain ⟨n, q1, q2, q3, q4⟩ := q
  refine ⟨n, q1, by rw [c3]; exact q2, by rw [m64]; exact q3, fun k hk => ?_⟩
  rw [cl 24 k (by decide) (by omega), cl 25 k (by decide) (by omega), cl 26 k (by decide) (by omega), ml 65 k (by decide) (by omega), ml 66 k (by decide) (by omega), ml 67 k (by decide) (by omega)]; exact q4 k hk
theorem SN.copy {κ : zK} {h f : zH} {a b : Nat} (q : SN κ h a) (c3 : f.1 7 b 0 = h.1 7 a 0) (cl : ∀ K k, K ∈ [28, 29, 30] → k < 8 → f.1 K b k = h.1 K a k) (m64 : f.1 68 0 b = h.1 68 0 a) (ml : ∀ K k, K ∈ [69, 70, 71] → k < 8 → f.1 K 0 (8 * b + k) = h.1 K 0 (8 * a + k)) : SN κ f b := by
  obtain ⟨n, q1, q2, q3, q4⟩ := q
  refine ⟨n, q1, by rw [c3]; exact q2, by rw [m64]; exact q3, fun k hk => ?_⟩
  rw [cl 28 k (by decide) (by omega), cl 29 k (by decide) (by omega), cl 30 k (by decide) (by omega), ml 69 k (by decide) (by omega), ml 70 k (by decide) (by omega), ml 71 k (by decide) (by omega)]; exact q4 k hk
theorem z1p {i : Nat} : (1 : Int32) + nI i = nI (1 + i) := nI_add 1 i
theorem nar1 : vp_nar .boolean 1 = 1 := by decide +kernel
/-- the model lays page a upon b -/
theorem ml_lays {h : zH} {a b : Nat} (ha : a ≤ 4) (hb : b ≤ 4) (hab : a ≠ b) : ∃ g1 g, f_X12_laysLines [.inr (.inr (12, 0)), .inl (nI a), .inl (nI b)] h = some (none, g1) ∧ f_X12_laysSeen [.inr (.inr (12, 0)), .inl (nI a), .inl (nI b)] g1 = some (none, g) ∧ g.2 = h.2 ∧ (∀ K j k, ¬ (64 ≤ K ∧ K ≤ 71 ∧ j = 0) → g.1 K j k = h.1 K j k) ∧ (∀ K k, K ∈ [64, 68] → g.1 K 0 k = if k = b then h.1 K 0 a else h.1 K 0 k) ∧ (∀ K k, K ∈ [65, 66, 67] → g.1 K 0 k = if 40 * b ≤ k ∧ k < 40 * b + 40 then h.1 K 0 (40 * a + (k - 40 * b)) else h.1 K 0 k) ∧ (∀ K k, K ∈ [69, 70, 71] → g.1 K 0 k = if 8 * b ≤ k ∧ k < 8 * b + 8 then h.1 K 0 (8 * a + (k - 8 * b)) else h.1 K 0 k) := by
  obtain ⟨g1, a1, a2, a3, a4⟩ := ml_laysLines (h := h) (a := a) (b := b) (by omega) (by omega) hab
  obtain ⟨g, b1, b2, b3, b4⟩ := ml_laysSeen (h := g1) (a := a) (b := b) (by omega) (by omega) hab
  have u1 : ∀ K j k, ¬ (64 ≤ K ∧ K ≤ 67 ∧ j = 0) → g1.1 K j k = h.1 K j k := fun K j k q => a2.1 K j k (fun z => by simp only [List.mem_cons, List.not_mem_nil, or_false, Prod.mk.injEq] at z; omega)
  have u2 : ∀ K j k, ¬ (68 ≤ K ∧ K ≤ 71 ∧ j = 0) → g.1 K j k = g1.1 K j k := fun K j k q => b2.1 K j k (fun z => by simp only [List.mem_cons, List.not_mem_nil, or_false, Prod.mk.injEq] at z; omega)
  refine ⟨g1, g, a1, b1, b2.2.trans a2.2, fun K j k q => by rw [u2 K j k (by omega), u1 K j k (by omega)], fun K k hK => ?_, fun K k hK => ?_, fun K k hK => ?_⟩
  · simp only [List.mem_cons, List.not_mem_nil, or_false] at hK
    rcases hK with rfl | rfl
    · rw [u2 64 0 k (by omega)]; exact a3 k
    · rw [b3 k, u1 68 0 a (by omega), u1 68 0 k (by omega)]
  · have hK2 := hK
    simp only [List.mem_cons, List.not_mem_nil, or_false] at hK2
    rw [u2 K 0 k (by omega)]; exact a4 K k hK
  · have hK2 := hK
    simp only [List.mem_cons, List.not_mem_nil, or_false] at hK2
    rw [b4 K k hK, u1 K 0 _ (by omega), u1 K 0 _ (by omega)]
theorem q_mark {m : Nat} {h : zH} (I : Inv m h) (x y : Int32) : agree f_X11_mark f_X12_mark [.inr (.inr (11, 0)), .inl x, .inl y] [.inr (.inr (12, 0)), .inl x, .inl y] m h := by
  obtain ⟨κ, I, J⟩ := I
  have h7 := I.h7
  have J' := J
  obtain ⟨i1, i2, i3, i4, i5, i6, i7⟩ := J'
  by_cases hx : ¬ x < 0 ∧ ¬ (3 : Int32) < x
  · obtain ⟨i, hi, rfl⟩ := in_have (n := 3) (by omega) hx
    have l4 : nI i < 4 := nI_lt (b := 4) (by omega) (by omega)
    by_cases hy : y = 0
    · -- laid
      obtain ⟨g, e1, e2, e3, e4, e5, e6, e7, e8⟩ := cl_page (j0 := 1 + i) (j1 := 0) h7 I.S (by omega)
      let g' : zH := zuI g 11 0 8 (g.1 11 0 8 ||| ((1 : Int32) <<< (nI i &&& 31)))
      have gg : ∀ K j k, ¬ (j = 1 + i ∧ (K = 3 ∨ K = 7 ∨ K = 8 ∨ K = 24 ∨ K = 25 ∨ K = 26 ∨ K = 28 ∨ K = 29 ∨ K = 30 ∨ K = 31 ∨ K = 32 ∨ K = 33)) → ¬ (K = 11 ∧ k = 8) → g'.1 K j k = h.1 K j k := fun K j k q1 q2 => by
        show (zuI g 11 0 8 (g.1 11 0 8 ||| ((1 : Int32) <<< (nI i &&& 31)))).1 K j k = _
        rw [zuI_o (by omega)]; exact e3 K j k q1
      have ga : ∀ K j k, K ≠ 11 → g'.1 K j k = g.1 K j k := fun K j k q => zuI_o (by omega)
      let g0 : zH := zuI (zuI g' 12 0 0 0) 77 0 i 1
      obtain ⟨f1, f2, a1, a2, a3, a4, a5, a6, a7⟩ := ml_lays (h := g0) (a := 0) (b := 1 + i) (by omega) (by omega) (by omega)
      obtain ⟨f, c1, c2, c3⟩ := sm_copies (K0 := 72) (K1 := 75) (a := 0) (b := 24 * i) f2 (by decide +kernel) (by decide +kernel) (by omega) (by decide +kernel) (by show 24 * i + 24 ≤ 96; omega) (by decide +kernel) (by decide +kernel)
      have g00 : ∀ K j k, ¬ (K = 12 ∧ k = 0) → ¬ (K = 77 ∧ k = i) → g0.1 K j k = g'.1 K j k := fun K j k q1 q2 => by
        show (zuI (zuI g' 12 0 0 0) 77 0 i 1).1 K j k = _
        rw [zuI_o (by omega), zuI_o (by omega)]
      have fq : ∀ K j k, ¬ (64 ≤ K ∧ K ≤ 71 ∧ j = 0) → K ≠ 75 → ¬ (K = 12 ∧ k = 0) → ¬ (K = 77 ∧ k = i) → f.1 K j k = g'.1 K j k := fun K j k q1 q2 q3 q4 => by
        rw [c2.1 K j k (fun z => by rw [List.mem_singleton, Prod.mk.injEq] at z; omega), a4 K j k q1, g00 K j k q3 q4]
      have fh : ∀ K j k, ¬ (64 ≤ K ∧ K ≤ 71 ∧ j = 0) → K ≠ 75 → ¬ (K = 12 ∧ k = 0) → ¬ (K = 77 ∧ k = i) → ¬ (j = 1 + i ∧ (K = 3 ∨ K = 7 ∨ K = 8 ∨ K = 24 ∨ K = 25 ∨ K = 26 ∨ K = 28 ∨ K = 29 ∨ K = 30 ∨ K = 31 ∨ K = 32 ∨ K = 33)) → ¬ (K = 11 ∧ k = 8) → f.1 K j k = h.1 K j k := fun K j k q1 q2 q3 q4 q5 q6 => (fq K j k q1 q2 q3 q4).trans (gg K j k q5 q6)
      have f64 : ∀ K k, K ∈ [64, 68] → f.1 K 0 k = if k = 1 + i then h.1 K 0 0 else h.1 K 0 k := fun K k hK => by
        have hK2 := hK
        simp only [List.mem_cons, List.not_mem_nil, or_false] at hK2
        rw [c2.1 K 0 k (fun z => by rw [List.mem_singleton, Prod.mk.injEq] at z; omega), a5 K k hK, g00 K 0 _ (by omega) (by omega), g00 K 0 _ (by omega) (by omega), gg K 0 _ (by omega) (by omega), gg K 0 _ (by omega) (by omega)]
      have f65 : ∀ K k, K ∈ [65, 66, 67] → f.1 K 0 k = if 40 * (1 + i) ≤ k ∧ k < 40 * (1 + i) + 40 then h.1 K 0 (40 * 0 + (k - 40 * (1 + i))) else h.1 K 0 k := fun K k hK => by
        have hK2 := hK
        simp only [List.mem_cons, List.not_mem_nil, or_false] at hK2
        rw [c2.1 K 0 k (fun z => by rw [List.mem_singleton, Prod.mk.injEq] at z; omega), a6 K k hK, g00 K 0 _ (by omega) (by omega), g00 K 0 _ (by omega) (by omega), gg K 0 _ (by omega) (by omega), gg K 0 _ (by omega) (by omega)]
      have f69 : ∀ K k, K ∈ [69, 70, 71] → f.1 K 0 k = if 8 * (1 + i) ≤ k ∧ k < 8 * (1 + i) + 8 then h.1 K 0 (8 * 0 + (k - 8 * (1 + i))) else h.1 K 0 k := fun K k hK => by
        have hK2 := hK
        simp only [List.mem_cons, List.not_mem_nil, or_false] at hK2
        rw [c2.1 K 0 k (fun z => by rw [List.mem_singleton, Prod.mk.injEq] at z; omega), a7 K k hK, g00 K 0 _ (by omega) (by omega), g00 K 0 _ (by omega) (by omega), gg K 0 _ (by omega) (by omega), gg K 0 _ (by omega) (by omega)]
      have f75 : ∀ k, f.1 75 0 k = if 24 * i ≤ k ∧ k < 24 * i + 24 then h.1 72 0 (k - 24 * i) else h.1 75 0 k := fun k => by
        rw [c3 k, a4 72 0 _ (by omega), a4 75 0 _ (by omega), g00 72 0 _ (by omega) (by omega), g00 75 0 _ (by omega) (by omega), gg 72 0 _ (by omega) (by omega), gg 75 0 _ (by omega) (by omega), Nat.zero_add]
      have f77 : ∀ k, f.1 77 0 k = if k = i then 1 else h.1 77 0 k := fun k => by
        rw [c2.1 77 0 k (by decide), a4 77 0 k (by omega)]
        show (zuI (zuI g' 12 0 0 0) 77 0 i 1).1 77 0 k = _
        by_cases e : k = i
        · rw [if_pos e, e, zuI_at]
        · rw [if_neg e, zuI_ne e, zuI_o (by omega)]; exact gg 77 0 k (by omega) (by omega)
      have f118 : f.1 11 0 8 = h.1 11 0 8 ||| ((1 : Int32) <<< (nI i &&& 31)) := by
        rw [fq 11 0 8 (by omega) (by omega) (by omega) (by omega)]
        show (zuI g 11 0 8 (g.1 11 0 8 ||| ((1 : Int32) <<< (nI i &&& 31)))).1 11 0 8 = _
        rw [zuI_at, e3 11 0 8 (by omega)]
      have fl : f.2 = h.2 := (c2.2.trans a3).trans e2
      have rr : f.1 72 0 = h.1 72 0 := funext (fun k => fh 72 0 k (by omega) (by omega) (by omega) (by omega) (by omega) (by omega))
      refine ⟨1, g', f, ?_, ?_, κ, IV.mono (m := m) ⟨I.G, I.K.agr (fun K k hK => ?_), I.M.agr I.G (fun K k hK => ?_), ?_, ?_, by rw [rr]; exact I.R⟩ (Nat.le_succ m), IW.mono (m := m) ⟨i1.agr (fun K k _ => by rw [fl]), i2.agr (fun k => by rw [fl]), i3.agr ?_ ?_ (fun K k hK => ?_), i4.agr (fun k => ?_) ?_ (fun k => ?_) (fun K j k h1 h2 hK => ?_), i5.agr2 (fun K k hK => ?_) ?_ (fun K k hK h1 h2 => ?_), i6.agr2 (fun K k hK => ?_) ?_ (fun K k hK h1 h2 => ?_), fun i' hi' => ?_⟩ (Nat.le_succ m)⟩
      all_goals try (simp only [List.mem_cons, List.not_mem_nil, or_false] at hK; exact fh _ _ _ (by omega) (by omega) (by omega) (by omega) (by omega) (by omega))
      all_goals try (exact fh _ _ _ (by omega) (by omega) (by omega) (by omega) (by omega) (by omega))
      · rw [g_X11_mark, zf_neg hx.1, zf_pos l4, zf_pos hy, zfx (by omega) (by omega), nI_clamp (by omega), e1, zcv_ok]
      · have a1 : f_X12_laysLines [.inr (.inr (12, 0)), .inl 0, .inl (nI (1 + i))] (zuI (zuI g' 12 0 0 0) 77 0 i 1) = some (none, f1) := a1
        have a2 : f_X12_laysSeen [.inr (.inr (12, 0)), .inl 0, .inl (nI (1 + i))] f1 = some (none, f2) := a2
        have c1 : f_X12_copies [.inr (.inr (72, 0)), .inl 0, .inr (.inr (75, 0)), .inl (nI (24 * i))] f2 = some (none, f) := c1
        rw [g_X12_mark, sm_within, zci_ok, zf_b0, zf_pos hx, zf_pos hy, e_X12_mark_29, zfx (by omega) (by omega), zf_pos hy, zf_pos hy, nI_clamp (by omega), nar1, e_X12_mark_59, z1p, a1, zcv_ok, a2, zcv_ok, zf_pos hy, nI_mul24, c1, zcv_ok]
      · rw [fh 12 0 54 (by omega) (by omega) (by omega) (by omega) (by omega) (by omega)]; exact I.D
      · rw [rr]; exact I.S.agr (fun K k hK => by have := mem4 hK; exact fh K 0 k (by omega) (by omega) (by omega) (by omega) (by omega) (by omega))
      · rw [f64 64 0 (by decide), if_neg (by omega)]
      · rw [f65 K k hK, if_neg (by omega)]
      · rw [f64 68 0 (by decide), if_neg (by omega)]
      · rw [f69 K k hK, if_neg (by omega)]
      · by_cases e : i' = i
        · subst e
          refine Or.inl ⟨⟨by rw [f118, tb_or (by omega)]; exact Or.inr ((tb_one (by omega) (by omega)).mpr rfl), by rw [f77, if_pos rfl]⟩, ?_, ?_, ?_, ?_⟩
          · refine (e4.agr (fun K k hK => ?_)).row h7 (fun k hk => ?_)
            · have := mem4 hK
              rw [fq K _ k (by omega) (by omega) (by omega) (by omega), ga K _ k (by omega)]
            · show f.1 75 0 (24 * i' + k) = _
              rw [f75, if_pos (by omega), show 24 * i' + k - 24 * i' = k by omega]
          · refine I.R.row h7 (fun k hk => ?_)
            show f.1 75 0 (24 * i' + k) = _
            rw [f75, if_pos (by omega), show 24 * i' + k - 24 * i' = k by omega]
          · refine i5.copy (b := 1 + i') ?_ (fun K k hK hk => ?_) ?_ (fun K k hK hk => ?_)
            · rw [fq 3 _ 0 (by omega) (by omega) (by omega) (by omega), ga 3 _ 0 (by omega)]; exact e5
            · have hK2 := hK
              simp only [List.mem_cons, List.not_mem_nil, or_false] at hK2
              rw [fq K _ k (by omega) (by omega) (by omega) (by omega), ga K _ k (by omega)]; exact e7 K k hK hk
            · rw [f64 64 _ (by decide), if_pos rfl]
            · rw [f65 K _ hK, if_pos (by omega), show 40 * (1 + i') + k - 40 * (1 + i') = k by omega]
          · refine i6.copy (b := 1 + i') ?_ (fun K k hK hk => ?_) ?_ (fun K k hK hk => ?_)
            · rw [fq 7 _ 0 (by omega) (by omega) (by omega) (by omega), ga 7 _ 0 (by omega)]; exact e6
            · have hK2 := hK
              simp only [List.mem_cons, List.not_mem_nil, or_false] at hK2
              rw [fq K _ k (by omega) (by omega) (by omega) (by omega), ga K _ k (by omega)]; exact e8 K k hK hk
            · rw [f64 68 _ (by decide), if_pos rfl]
            · rw [f69 K _ hK, if_pos (by omega), show 8 * (1 + i') + k - 8 * (1 + i') = k by omega]
        · have tl : tb (f.1 11 0 8) i' ↔ tb (h.1 11 0 8) i' := by
            rw [f118, tb_or (by omega), tb_one (by omega) (by omega)]
            exact ⟨fun z => z.elim id (fun y => absurd y e), Or.inl⟩
          rw [tl, f77, if_neg e]
          rcases i7 i' hi' with ⟨q1, q2, q3, q4, q5⟩ | q1
          · have er : ∀ k, k < 24 → mr f i' k = mr h i' k := fun k hk => by
              show f.1 75 0 (24 * i' + k) = _
              rw [f75, if_neg (by omega)]; rfl
            refine Or.inl ⟨q1, (q2.agr (fun K k hK => ?_)).row h7 er, q3.row h7 er, q4.agr2 (fun K k hK => ?_) ?_ (fun K k hK h1 h2 => ?_), q5.agr2 (fun K k hK => ?_) ?_ (fun K k hK h1 h2 => ?_)⟩
            · have := mem4 hK; exact fh K _ k (by omega) (by omega) (by omega) (by omega) (by omega) (by omega)
            · have := mem4 hK; exact fh K _ k (by omega) (by omega) (by omega) (by omega) (by omega) (by omega)
            · rw [f64 64 _ (by decide), if_neg (by omega)]
            · rw [f65 K k hK, if_neg (by omega)]
            · have := mem4 hK; exact fh K _ k (by omega) (by omega) (by omega) (by omega) (by omega) (by omega)
            · rw [f64 68 _ (by decide), if_neg (by omega)]
            · rw [f69 K k hK, if_neg (by omega)]
          · exact Or.inr q1
    · rcases i7 i (by omega) with ⟨⟨q0, q1⟩, q2, q3, q4, q5⟩ | ⟨q0, q1⟩
      · -- gone back to
        obtain ⟨g, e1, e2, e3, e4, e5, e6, e7, e8⟩ := cl_page (j0 := 0) (j1 := 1 + i) h7 q2 (by omega)
        let g' : zH := zuI g 5 0 2 0
        have gg : ∀ K j k, ¬ (j = 0 ∧ (K = 3 ∨ K = 7 ∨ K = 8 ∨ K = 24 ∨ K = 25 ∨ K = 26 ∨ K = 28 ∨ K = 29 ∨ K = 30 ∨ K = 31 ∨ K = 32 ∨ K = 33)) → ¬ (K = 5 ∧ k = 2) → g'.1 K j k = h.1 K j k := fun K j k q1 q2 => by
          show (zuI g 5 0 2 0).1 K j k = _
          rw [zuI_o (by omega)]; exact e3 K j k q1
        have ga : ∀ K j k, K ≠ 5 → g'.1 K j k = g.1 K j k := fun K j k q => zuI_o (by omega)
        let g0 : zH := zuI (zuI g' 12 0 0 0) 77 0 i 1
        obtain ⟨f1, f2, a1, a2, a3, a4, a5, a6, a7⟩ := ml_lays (h := g0) (a := 1 + i) (b := 0) (by omega) (by omega) (by omega)
        obtain ⟨f0, c1, c2, c3⟩ := sm_copies (K0 := 75) (K1 := 72) (a := 24 * i) (b := 0) f2 (by decide +kernel) (by decide +kernel) (by omega) (by show 24 * i + 24 ≤ 96; omega) (by decide +kernel) (by decide +kernel) (by decide +kernel)
        let f : zH := zuI f0 12 0 53 0
        have g00 : ∀ K j k, ¬ (K = 12 ∧ k = 0) → g0.1 K j k = g'.1 K j k := fun K j k p1 => by
          show (zuI (zuI g' 12 0 0 0) 77 0 i 1).1 K j k = _
          by_cases e : K = 77 ∧ j = 0 ∧ k = i
          · obtain ⟨rfl, rfl, rfl⟩ := e
            rw [zuI_at, gg 77 0 k (by omega) (by omega)]; exact q1.symm
          · rw [zuI_o e, zuI_o (by omega)]
        have fq : ∀ K j k, ¬ (64 ≤ K ∧ K ≤ 71 ∧ j = 0) → K ≠ 72 → ¬ (K = 12 ∧ (k = 0 ∨ k = 53)) → f.1 K j k = g'.1 K j k := fun K j k p1 p2 p3 => by
          show (zuI f0 12 0 53 0).1 K j k = _
          rw [zuI_o (by omega), c2.1 K j k (fun z => by rw [List.mem_singleton, Prod.mk.injEq] at z; omega), a4 K j k p1, g00 K j k (by omega)]
        have fh : ∀ K j k, ¬ (64 ≤ K ∧ K ≤ 71 ∧ j = 0) → K ≠ 72 → ¬ (K = 12 ∧ (k = 0 ∨ k = 53)) → ¬ (j = 0 ∧ (K = 3 ∨ K = 7 ∨ K = 8 ∨ K = 24 ∨ K = 25 ∨ K = 26 ∨ K = 28 ∨ K = 29 ∨ K = 30 ∨ K = 31 ∨ K = 32 ∨ K = 33)) → ¬ (K = 5 ∧ k = 2) → f.1 K j k = h.1 K j k := fun K j k p1 p2 p3 p4 p5 => (fq K j k p1 p2 p3).trans (gg K j k p4 p5)
        have ft : ∀ K j k, K ≠ 12 → K ≠ 72 → f.1 K j k = f2.1 K j k := fun K j k p1 p2 => by
          show (zuI f0 12 0 53 0).1 K j k = _
          rw [zuI_o (by omega), c2.1 K j k (fun z => by rw [List.mem_singleton, Prod.mk.injEq] at z; omega)]
        have f64 : ∀ K k, K ∈ [64, 68] → f.1 K 0 k = if k = 0 then h.1 K 0 (1 + i) else h.1 K 0 k := fun K k hK => by
          have hK2 := hK
          simp only [List.mem_cons, List.not_mem_nil, or_false] at hK2
          rw [ft K 0 k (by omega) (by omega), a5 K k hK, g00 K 0 _ (by omega), g00 K 0 _ (by omega), gg K 0 _ (by omega) (by omega), gg K 0 _ (by omega) (by omega)]
        have f65 : ∀ K k, K ∈ [65, 66, 67] → f.1 K 0 k = if 40 * 0 ≤ k ∧ k < 40 * 0 + 40 then h.1 K 0 (40 * (1 + i) + (k - 40 * 0)) else h.1 K 0 k := fun K k hK => by
          have hK2 := hK
          simp only [List.mem_cons, List.not_mem_nil, or_false] at hK2
          rw [ft K 0 k (by omega) (by omega), a6 K k hK, g00 K 0 _ (by omega), g00 K 0 _ (by omega), gg K 0 _ (by omega) (by omega), gg K 0 _ (by omega) (by omega)]
        have f69 : ∀ K k, K ∈ [69, 70, 71] → f.1 K 0 k = if 8 * 0 ≤ k ∧ k < 8 * 0 + 8 then h.1 K 0 (8 * (1 + i) + (k - 8 * 0)) else h.1 K 0 k := fun K k hK => by
          have hK2 := hK
          simp only [List.mem_cons, List.not_mem_nil, or_false] at hK2
          rw [ft K 0 k (by omega) (by omega), a7 K k hK, g00 K 0 _ (by omega), g00 K 0 _ (by omega), gg K 0 _ (by omega) (by omega), gg K 0 _ (by omega) (by omega)]
        have fr : ∀ k, k < 24 → f.1 72 0 k = mr h i k := fun k hk => by
          show (zuI f0 12 0 53 0).1 72 0 k = _
          rw [zuI_o (by omega), c3 k, if_pos (by omega), a4 75 0 _ (by omega), g00 75 0 _ (by omega), gg 75 0 _ (by omega) (by omega)]; rfl
        have fl : f.2 = h.2 := (c2.2.trans a3).trans e2
        obtain ⟨d, n, p1, p2, p3, p4, p5, p6⟩ := i4
        refine ⟨1, g', f, ?_, ?_, κ, IV.mono (m := m) ⟨I.G, I.K.agr (fun K k hK => ?_), I.M.agr I.G (fun K k hK => ?_), ?_, ?_, q3.row h7 fr⟩ (Nat.le_succ m), IW.mono (m := m) ⟨i1.agr (fun K k _ => by rw [fl]), i2.agr (fun k => by rw [fl]), i3.agr ?_ ?_ (fun K k hK => ?_), ⟨0, n, by omega, p2, ?_, ?_, zuI_at, fun i hi => absurd hi (Nat.not_lt_zero i)⟩, q4.copy (b := 0) ?_ (fun K k hK hk => ?_) ?_ (fun K k hK hk => ?_), q5.copy (b := 0) ?_ (fun K k hK hk => ?_) ?_ (fun K k hK hk => ?_), i7.agr2 ?_ (fun K k hK => ?_) (fun K k hK h1 h2 => ?_) (fun K k hK h1 h2 => ?_) (fun K k hK h1 => ?_) (fun K j k h1 h2 hK => ?_)⟩ (Nat.le_succ m)⟩
        all_goals try (simp only [List.mem_cons, List.not_mem_nil, or_false] at hK; exact fh _ _ _ (by omega) (by omega) (by omega) (by omega) (by omega))
        all_goals try (exact fh _ _ _ (by omega) (by omega) (by omega) (by omega) (by omega))
        · rw [g_X11_mark, zf_neg hx.1, zf_pos l4, zf_neg hy, tb_0, zf_not, zf_pos q0, zfx (by omega) (by omega), nI_clamp (by omega), e1, zcv_ok]
        · have a1 : f_X12_laysLines [.inr (.inr (12, 0)), .inl (nI (1 + i)), .inl 0] (zuI (zuI g' 12 0 0 0) 77 0 i 1) = some (none, f1) := a1
          have a2 : f_X12_laysSeen [.inr (.inr (12, 0)), .inl (nI (1 + i)), .inl 0] f1 = some (none, f2) := a2
          have c1 : f_X12_copies [.inr (.inr (75, 0)), .inl (nI (24 * i)), .inr (.inr (72, 0)), .inl 0] f2 = some (none, f0) := c1
          have g77 : (zuI g' 12 0 0 0).1 77 0 i = 1 := by rw [zuI_o (by omega), gg 77 0 i (by omega) (by omega)]; exact q1
          rw [g_X12_mark, sm_within, zci_ok, zf_b0, zf_pos hx, zf_neg hy, zfx (by omega) (by omega), nI_clamp (by omega), g77, zf_neg (show ¬ (1 : Int32) = 0 by decide), e_X12_mark_29, zfx (by omega) (by omega), zf_neg hy, zf_neg hy, nI_clamp (by omega), nar1, e_X12_mark_59, z1p, a1, zcv_ok, a2, zcv_ok, zf_neg hy, nI_mul24, c1, zcv_ok]
        · rw [fh 12 0 54 (by omega) (by omega) (by omega) (by omega) (by omega)]; exact I.D
        · exact (e4.agr (fun K k hK => by have := mem4 hK; rw [fq K 0 k (by omega) (by omega) (by omega), ga K 0 k (by omega)])).row h7 fr
        · rw [fh 5 0 1 (by omega) (by omega) (by omega) (by omega) (by omega)]; exact p3
        · rw [fq 5 0 2 (by omega) (by omega) (by omega)]; exact zuI_at
        · rw [fq 3 0 0 (by omega) (by omega) (by omega), ga 3 0 0 (by omega)]; exact e5
        · have hK2 := hK
          simp only [List.mem_cons, List.not_mem_nil, or_false] at hK2
          rw [fq K 0 k (by omega) (by omega) (by omega), ga K 0 k (by omega)]; exact e7 K k hK hk
        · rw [f64 64 0 (by decide), if_pos rfl]
        · rw [f65 K _ hK, if_pos (by omega), show 40 * 0 + k - 40 * 0 = k by omega]
        · rw [fq 7 0 0 (by omega) (by omega) (by omega), ga 7 0 0 (by omega)]; exact e6
        · have hK2 := hK
          simp only [List.mem_cons, List.not_mem_nil, or_false] at hK2
          rw [fq K 0 k (by omega) (by omega) (by omega), ga K 0 k (by omega)]; exact e8 K k hK hk
        · rw [f64 68 0 (by decide), if_pos rfl]
        · rw [f69 K _ hK, if_pos (by omega), show 8 * 0 + k - 8 * 0 = k by omega]
        · rw [f64 K k hK, if_neg (by omega)]
        · rw [f65 K k hK, if_neg (by omega)]
        · rw [f69 K k hK, if_neg (by omega)]
      · refine agree.look I J (v := 0) (h1 := h) (h2 := zuI h 12 0 0 0) ?_ quiet.rf ?_ quiet.thrown
        · rw [g_X11_mark, zf_neg hx.1, zf_pos l4, zf_neg hy, tb_0, zf_not, zf_neg q0]
        · rw [g_X12_mark, sm_within, zci_ok, zf_b0, zf_pos hx, zf_neg hy, zfx (by omega) (by omega), nI_clamp (by omega), zuI_o (by omega), zf_pos q1]
  · refine agree.look I J (v := 0) (h1 := h) (h2 := zuI h 12 0 0 0) ?_ quiet.rf ?_ quiet.thrown
    · rw [g_X11_mark]
      by_cases e : x < 0
      · rw [zf_pos e]
      · have e2 : (3 : Int32) < x := Classical.byContradiction (fun z => hx ⟨e, z⟩)
        rw [zf_neg e, zf_neg (show ¬ x < 4 by
          intro z
          rw [Int32.lt_iff_toInt_lt] at z e2
          have a3 : (3 : Int32).toInt = 3 := rfl
          have a4 : (4 : Int32).toInt = 4 := rfl
          omega)]
    · rw [g_X12_mark, sm_within, zci_ok, zf_b0, zf_neg hx]
