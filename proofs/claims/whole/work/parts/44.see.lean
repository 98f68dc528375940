/-! Counts; what is seen. -/
theorem zsum_len {f : Nat → Int32} {n m : Nat} (hnm : n ≤ m) (h : ∀ c, n ≤ c → c < m → f c = 0) : zsum f m = zsum f n := by
  induction m with
  | zero => rw [show n = 0 by omega]
  | succ m ih =>
    by_cases e : n = m + 1
    · rw [e]
    · simp only [zsum]; rw [ih (by omega) (fun c h1 h2 => h c h1 (by omega)), h m (by omega) (by omega), Int32.add_zero]
theorem cakeB {C c : Nat} (h7 : C ≤ 7) (hc : c < C) : tb (((1 : Int32) <<< (nI C &&& 31)) - 1) c := by
  have h1 : 1 ≤ 2 ^ C := Nat.one_le_two_pow
  rw [shl1 C (by omega), show (1 : Int32) = nI 1 from rfl, pk_sub h1, tb_nI (by omega), Nat.testBit_two_pow_sub_one]
  exact decide_eq_true hc
theorem allT {κ : zK} {m : Nat} {r : zRo} (R : gR κ m r) (h7 : kC κ ≤ 7) : zsum (fun c => zi (tb (((1 : Int32) <<< (nI (kC κ) &&& 31)) - 1) c) (r (3 + c)) 0) (kC κ) = zsum (fun c => r (3 + c)) 7 := by
  rw [zsum_len h7 (f := fun c => r (3 + c)) (fun c h1 h2 => R.2 c h1 h2)]
  exact zsum_congr (fun c hc => zi_pos (cakeB h7 hc))
theorem q_count {m : Nat} {h : zH} (I : Inv m h) (x : Int32) : agree f_X11_count f_X12_count [.inr (.inr (11, 0)), .inl x] [.inr (.inr (12, 0)), .inl x] m h := by
  obtain ⟨κ, I, J⟩ := I
  have h5 := I.h5
  have h7 := I.h7
  have I0 : IV κ m (zuI h 12 0 0 0) := I.quiet quiet.thrown
  have q0 : quiet h (zuI h 12 0 0 0) := quiet.thrown
  suffices key : ∃ v, f_X11_count [.inr (.inr (11, 0)), .inl x] h = some (some (.inl v), h) ∧ f_X12_count [.inr (.inr (12, 0)), .inl x] h = some (some (.inl v), zuI h 12 0 0 0) by
    obtain ⟨v, e1, e2⟩ := key
    exact agree.look I J e1 quiet.rf e2 quiet.thrown
  obtain ⟨-, -, ⟨nt, t1, t2, t3, -⟩, ⟨d, n, p1, p2, p3, p4, p5, -⟩, ⟨nl, l1, l2, l3, -⟩, ⟨ns, s1, s2, s3, -⟩, -⟩ := J
  have f : ∀ K j k, ¬ scr K j k → (zuI h 12 0 0 0).1 K j k = h.1 K j k := q0.1
  rw [g_X11_count, g_X12_count, sm_within, zci_ok, zf_b0]
  by_cases hx : ¬ x < 0 ∧ ¬ (12 : Int32) < x
  · rw [zf_pos hx]
    obtain ⟨k, hk, rfl⟩ := in_have (n := 12) (by omega) hx
    match k, hk with
    | 0, _ =>
      rw [zf_pos (show nI 0 = 0 by decide), I.K.1, zf_pos (show nI 0 < 3 by decide), zfx (by omega) (by omega), nI_clamp (by omega), I0.M.1]
      exact ⟨_, rfl, rfl⟩
    | 1, _ =>
      rw [zf_neg (show ¬ nI 1 = 0 by decide), zf_pos (show nI 1 = 1 by decide), I.K.2.2.1, zf_pos (show nI 1 < 3 by decide), zfx (by omega) (by omega), nI_clamp (by omega), I0.M.2.1]
      exact ⟨_, rfl, rfl⟩
    | 2, _ =>
      rw [zf_neg (show ¬ nI 2 = 0 by decide), zf_neg (show ¬ nI 2 = 1 by decide), zf_pos (show nI 2 = 2 by decide), I.K.2.2.2.2.1, zf_pos (show nI 2 < 3 by decide), zfx (by omega) (by omega), nI_clamp (by omega), I0.M.2.2.1]
      exact ⟨_, rfl, rfl⟩
    | 3, _ =>
      rw [zf_neg (show ¬ nI 3 = 0 by decide), zf_neg (show ¬ nI 3 = 1 by decide), zf_neg (show ¬ nI 3 = 2 by decide), zf_pos (show nI 3 = 3 by decide), I.S.2.2.1, zf_neg (show ¬ nI 3 < 3 by decide), zf_pos (show nI 3 < 6 by decide), zf_pos (show nI 3 = 3 by decide), hr0]
      exact ⟨_, rfl, rfl⟩
    | 4, _ =>
      rw [zf_neg (show ¬ nI 4 = 0 by decide), zf_neg (show ¬ nI 4 = 1 by decide), zf_neg (show ¬ nI 4 = 2 by decide), zf_neg (show ¬ nI 4 = 3 by decide), zf_pos (show nI 4 = 4 by decide), I.S.2.1, zf_neg (show ¬ nI 4 < 3 by decide), zf_pos (show nI 4 < 6 by decide), zf_neg (show ¬ nI 4 = 3 by decide), zf_pos (show nI 4 = 4 by decide), hr0]
      exact ⟨_, rfl, rfl⟩
    | 5, _ =>
      rw [zf_neg (show ¬ nI 5 = 0 by decide), zf_neg (show ¬ nI 5 = 1 by decide), zf_neg (show ¬ nI 5 = 2 by decide), zf_neg (show ¬ nI 5 = 3 by decide), zf_neg (show ¬ nI 5 = 4 by decide), zf_pos (show nI 5 = 5 by decide), g_X0_cakeBits, zci_ok, I.K.2.2.1, cl_thickOf I.K I.S, zci_ok, allT I.R h7, zf_neg (show ¬ nI 5 < 3 by decide), zf_pos (show nI 5 < 6 by decide), zf_neg (show ¬ nI 5 = 3 by decide), zf_neg (show ¬ nI 5 = 4 by decide), ml_allThick, zci_ok, hr0]
      exact ⟨_, rfl, rfl⟩
    | 6, _ =>
      rw [zf_neg (show ¬ nI 6 = 0 by decide), zf_neg (show ¬ nI 6 = 1 by decide), zf_neg (show ¬ nI 6 = 2 by decide), zf_neg (show ¬ nI 6 = 3 by decide), zf_neg (show ¬ nI 6 = 4 by decide), zf_neg (show ¬ nI 6 = 5 by decide), zf_pos (show nI 6 = 6 by decide), cl_thereBits I.K I.S, zci_ok, zf_neg (show ¬ nI 6 < 3 by decide), zf_neg (show ¬ nI 6 < 6 by decide), zf_pos (show nI 6 < 9 by decide), zf_pos (show nI 6 = 6 by decide), sm_allThere _ I0.M.2.1 h7, zci_ok, hr0]
      exact ⟨_, rfl, rfl⟩
    | 7, _ =>
      rw [zf_neg (show ¬ nI 7 = 0 by decide), zf_neg (show ¬ nI 7 = 1 by decide), zf_neg (show ¬ nI 7 = 2 by decide), zf_neg (show ¬ nI 7 = 3 by decide), zf_neg (show ¬ nI 7 = 4 by decide), zf_neg (show ¬ nI 7 = 5 by decide), zf_neg (show ¬ nI 7 = 6 by decide), zf_pos (show nI 7 = 7 by decide), cl_pairsAtWar I.K I.S I.G I.R, zci_ok, zf_neg (show ¬ nI 7 < 3 by decide), zf_neg (show ¬ nI 7 < 6 by decide), zf_pos (show nI 7 < 9 by decide), zf_neg (show ¬ nI 7 = 6 by decide), zf_pos (show nI 7 = 7 by decide), ml_pairsAtWar I0.M I0.G I0.R, zci_ok, hr0]
      exact ⟨_, rfl, rfl⟩
    | 8, _ =>
      rw [zf_neg (show ¬ nI 8 = 0 by decide), zf_neg (show ¬ nI 8 = 1 by decide), zf_neg (show ¬ nI 8 = 2 by decide), zf_neg (show ¬ nI 8 = 3 by decide), zf_neg (show ¬ nI 8 = 4 by decide), zf_neg (show ¬ nI 8 = 5 by decide), zf_neg (show ¬ nI 8 = 6 by decide), zf_neg (show ¬ nI 8 = 7 by decide), zf_pos (show nI 8 = 8 by decide), cl_pairsInEarnest I.K I.S I.G I.R, zci_ok, zf_neg (show ¬ nI 8 < 3 by decide), zf_neg (show ¬ nI 8 < 6 by decide), zf_pos (show nI 8 < 9 by decide), zf_neg (show ¬ nI 8 = 6 by decide), zf_neg (show ¬ nI 8 = 7 by decide), ml_pairsEarnest I0.M I0.G I0.R, zci_ok, hr0]
      exact ⟨_, rfl, rfl⟩
    | 9, _ =>
      rw [zf_neg (show ¬ nI 9 = 0 by decide), zf_neg (show ¬ nI 9 = 1 by decide), zf_neg (show ¬ nI 9 = 2 by decide), zf_neg (show ¬ nI 9 = 3 by decide), zf_neg (show ¬ nI 9 = 4 by decide), zf_neg (show ¬ nI 9 = 5 by decide), zf_neg (show ¬ nI 9 = 6 by decide), zf_neg (show ¬ nI 9 = 7 by decide), zf_neg (show ¬ nI 9 = 8 by decide), zf_pos (show nI 9 = 9 by decide), l2, zf_neg (show ¬ nI 9 < 3 by decide), zf_neg (show ¬ nI 9 < 6 by decide), zf_neg (show ¬ nI 9 < 9 by decide), zf_pos (show nI 9 < 11 by decide), zf_pos (show nI 9 = 9 by decide), f 64 0 0 (by unfold scr; omega), l3]
      exact ⟨_, rfl, rfl⟩
    | 10, _ =>
      rw [zf_neg (show ¬ nI 10 = 0 by decide), zf_neg (show ¬ nI 10 = 1 by decide), zf_neg (show ¬ nI 10 = 2 by decide), zf_neg (show ¬ nI 10 = 3 by decide), zf_neg (show ¬ nI 10 = 4 by decide), zf_neg (show ¬ nI 10 = 5 by decide), zf_neg (show ¬ nI 10 = 6 by decide), zf_neg (show ¬ nI 10 = 7 by decide), zf_neg (show ¬ nI 10 = 8 by decide), zf_neg (show ¬ nI 10 = 9 by decide), zf_pos (show nI 10 = 10 by decide), s2, zf_neg (show ¬ nI 10 < 3 by decide), zf_neg (show ¬ nI 10 < 6 by decide), zf_neg (show ¬ nI 10 < 9 by decide), zf_pos (show nI 10 < 11 by decide), zf_neg (show ¬ nI 10 = 9 by decide), f 68 0 0 (by unfold scr; omega), s3]
      exact ⟨_, rfl, rfl⟩
    | 11, _ =>
      rw [zf_neg (show ¬ nI 11 = 0 by decide), zf_neg (show ¬ nI 11 = 1 by decide), zf_neg (show ¬ nI 11 = 2 by decide), zf_neg (show ¬ nI 11 = 3 by decide), zf_neg (show ¬ nI 11 = 4 by decide), zf_neg (show ¬ nI 11 = 5 by decide), zf_neg (show ¬ nI 11 = 6 by decide), zf_neg (show ¬ nI 11 = 7 by decide), zf_neg (show ¬ nI 11 = 8 by decide), zf_neg (show ¬ nI 11 = 9 by decide), zf_neg (show ¬ nI 11 = 10 by decide), zf_pos (show nI 11 = 11 by decide), p4, zf_neg (show ¬ nI 11 < 3 by decide), zf_neg (show ¬ nI 11 < 6 by decide), zf_neg (show ¬ nI 11 < 9 by decide), zf_neg (show ¬ nI 11 < 11 by decide), zf_pos (show nI 11 = 11 by decide), f 12 0 53 (by unfold scr; omega), p5]
      exact ⟨_, rfl, rfl⟩
    | 12, _ =>
      rw [zf_neg (show ¬ nI 12 = 0 by decide), zf_neg (show ¬ nI 12 = 1 by decide), zf_neg (show ¬ nI 12 = 2 by decide), zf_neg (show ¬ nI 12 = 3 by decide), zf_neg (show ¬ nI 12 = 4 by decide), zf_neg (show ¬ nI 12 = 5 by decide), zf_neg (show ¬ nI 12 = 6 by decide), zf_neg (show ¬ nI 12 = 7 by decide), zf_neg (show ¬ nI 12 = 8 by decide), zf_neg (show ¬ nI 12 = 9 by decide), zf_neg (show ¬ nI 12 = 10 by decide), zf_neg (show ¬ nI 12 = 11 by decide), zf_pos (show nI 12 = 12 by decide), t2, zf_neg (show ¬ nI 12 < 3 by decide), zf_neg (show ¬ nI 12 < 6 by decide), zf_neg (show ¬ nI 12 < 9 by decide), zf_neg (show ¬ nI 12 < 11 by decide), zf_neg (show ¬ nI 12 = 11 by decide), f 12 0 1 (by unfold scr; omega), t3]
      exact ⟨_, rfl, rfl⟩
  · have n : ∀ k : Nat, k ≤ 12 → ¬ x = nI k := fun k hk e => hx (by rw [e]; exact ⟨nI_pos (by omega), by rw [Olt (b := 12) (by omega) (by decide)]; exact Nat.not_lt.mpr hk⟩)
    rw [zf_neg hx, zf_neg (show ¬ x = 0 from n 0 (by omega)), zf_neg (show ¬ x = 1 from n 1 (by omega)), zf_neg (show ¬ x = 2 from n 2 (by omega)), zf_neg (show ¬ x = 3 from n 3 (by omega)), zf_neg (show ¬ x = 4 from n 4 (by omega)), zf_neg (show ¬ x = 5 from n 5 (by omega)), zf_neg (show ¬ x = 6 from n 6 (by omega)), zf_neg (show ¬ x = 7 from n 7 (by omega)), zf_neg (show ¬ x = 8 from n 8 (by omega)), zf_neg (show ¬ x = 9 from n 9 (by omega)), zf_neg (show ¬ x = 10 from n 10 (by omega)), zf_neg (show ¬ x = 11 from n 11 (by omega)), zf_neg (show ¬ x = 12 from n 12 (by omega))]
    exact ⟨_, rfl, rfl⟩
/-! pieces kept, place by place -/
theorem LN.agr2 {κ : zK} {h g : zH} {j : Nat} (q : LN κ h j) (a : ∀ K k, K ∈ [3, 24, 25, 26] → g.1 K j k = h.1 K j k) (b1 : g.1 64 0 j = h.1 64 0 j) (b : ∀ K k, K ∈ [65, 66, 67] → 40 * j ≤ k → k < 40 * j + 40 → g.1 K 0 k = h.1 K 0 k) : LN κ g j := by
  obtain ⟨n, q1, q2, q3, q4⟩ := q
  refine ⟨n, q1, by rw [a 3 0 (by decide)]; exact q2, by rw [b1]; exact q3, fun k hk => ?_⟩
  rw [a 24 k (by decide), a 25 k (by decide), a 26 k (by decide), b 65 _ (by decide) (by omega) (by omega), b 66 _ (by decide) (by omega) (by omega), b 67 _ (by decide) (by omega) (by omega)]; exact q4 k hk
theorem SN.agr2 {κ : zK} {h g : zH} {j : Nat} (q : SN κ h j) (a : ∀ K k, K ∈ [7, 28, 29, 30] → g.1 K j k = h.1 K j k) (b1 : g.1 68 0 j = h.1 68 0 j) (b : ∀ K k, K ∈ [69, 70, 71] → 8 * j ≤ k → k < 8 * j + 8 → g.1 K 0 k = h.1 K 0 k) : SN κ g j := by
  obtain ⟨n, q1, q2, q3, q4⟩ := q
  refine ⟨n, q1, by rw [a 7 0 (by decide)]; exact q2, by rw [b1]; exact q3, fun k hk => ?_⟩
  rw [a 28 k (by decide), a 29 k (by decide), a 30 k (by decide), b 69 _ (by decide) (by omega) (by omega), b 70 _ (by decide) (by omega) (by omega), b 71 _ (by decide) (by omega) (by omega)]; exact q4 k hk
theorem MX.agr2 {κ : zK} {m : Nat} {h g : zH} (q : MX κ m h) (a1 : g.1 11 0 8 = h.1 11 0 8) (a2 : ∀ K k, K ∈ [75, 77] → g.1 K 0 k = h.1 K 0 k) (a3 : ∀ K k, K ∈ [64, 68] → 1 ≤ k → k ≤ 4 → g.1 K 0 k = h.1 K 0 k) (a4 : ∀ K k, K ∈ [65, 66, 67] → 40 ≤ k → k < 200 → g.1 K 0 k = h.1 K 0 k) (a5 : ∀ K k, K ∈ [69, 70, 71] → 8 ≤ k → g.1 K 0 k = h.1 K 0 k) (a : ∀ K j k, 1 ≤ j → j ≤ 4 → K ∈ [3, 7, 8, 24, 25, 26, 28, 29, 30, 31, 32, 33] → g.1 K j k = h.1 K j k) : MX κ m g := by
  intro i hi
  have eu : mr g i = mr h i := funext (fun k => a2 75 _ (by decide))
  rw [a1, a2 77 i (by decide), eu]
  rcases q i hi with ⟨q1, q2, q3, q4, q5⟩ | q1
  · refine Or.inl ⟨q1, q2.agr (fun K k hK => a K _ k (by omega) (by omega) ?_), q3, q4.agr2 (fun K k hK => a K _ k (by omega) (by omega) ?_) (a3 64 _ (by decide) (by omega) (by omega)) (fun K k hK h1 h2 => a4 K k hK (by omega) (by omega)), q5.agr2 (fun K k hK => a K _ k (by omega) (by omega) ?_) (a3 68 _ (by decide) (by omega) (by omega)) (fun K k hK h1 h2 => a5 K k hK (by omega))⟩
    all_goals (have := mem4 hK; simp only [List.mem_cons, List.not_mem_nil, or_false]; omega)
  · exact Or.inr q1
/-! seen -/
theorem zuI_o {h : zH} {K j k K' j' k' : Nat} {v : Int32} (e : ¬ (K' = K ∧ j' = j ∧ k' = k)) : (zuI h K j k v).1 K' j' k' = h.1 K' j' k' := by
  show (if K' = K ∧ j' = j ∧ k' = k then v else h.1 K' j' k') = _
  rw [if_neg e]
theorem q_see {m : Nat} {h : zH} (I : Inv m h) (x y z : Int32) : agree f_X11_see f_X12_see [.inr (.inr (11, 0)), .inl x, .inl y, .inl z] [.inr (.inr (12, 0)), .inl x, .inl y, .inl z] m h := by
  obtain ⟨κ, I, J⟩ := I
  have h7 := I.h7
  have I0 : IV κ m (zuI h 12 0 0 0) := I.quiet quiet.thrown
  have J' := J
  obtain ⟨i1, i2, i3, i4, i5, ⟨n, s1, s2, s3, s4⟩, i7⟩ := J'
  have far : f_X11_isSightFar [.inl y] h = some (some (.inl (zb (¬ y < 1 ∧ ¬ (20 : Int32) < y))), h) := by
    rw [g_X11_isSightFar, zB01, zB0b]
  have ec : f_X11_see [.inr (.inr (11, 0)), .inl x, .inl y, .inl z] h = zf (isC κ x) (zf (¬ y < 1 ∧ ¬ (20 : Int32) < y) (zf (¬ z < 0 ∧ ¬ (40 : Int32) < z) (zci (f_X7_add [.inr (.inr (7, 0)), .inl x, .inl y, .inl z] h) (fun r6 h5 => zf ((r6 : Int32) = 0 ∨ (r6 : Int32) = 1) (some (some (.inl r6), h5)) none)) (some (some (.inl 0), h))) (some (some (.inl 0), h))) (some (some (.inl 0), h)) := by
    rw [g_X11_see, cl_hasCake I.K, zci_ok, zf_b0, far, zci_ok, zf_b0]
    refine zfI (fun _ => zfI (fun _ => ?_) (fun _ => rfl)) (fun _ => rfl)
    by_cases e : z < 0
    · rw [zf_pos e, zf_neg (fun q => q.1 e)]
    · by_cases e2 : (40 : Int32) < z
      · rw [zf_neg e, zf_pos e2, zf_neg (fun q => q.2 e2)]
      · rw [zf_neg e, zf_neg e2, zf_pos ⟨e, e2⟩]
  have no : ∀ g : zH, f_X11_see [.inr (.inr (11, 0)), .inl x, .inl y, .inl z] h = some (some (.inl 0), h) → f_X12_see [.inr (.inr (12, 0)), .inl x, .inl y, .inl z] h = some (some (.inl 0), zuI h 12 0 0 0) → agree f_X11_see f_X12_see [.inr (.inr (11, 0)), .inl x, .inl y, .inl z] [.inr (.inr (12, 0)), .inl x, .inl y, .inl z] m h := fun _ e1 e2 => agree.look I J e1 quiet.rf e2 quiet.thrown
  by_cases hx : isC κ x
  · by_cases hy : ¬ y < 1 ∧ ¬ (20 : Int32) < y
    · by_cases hz : ¬ z < 0 ∧ ¬ (40 : Int32) < z
      · by_cases hn : n = 8
        · refine no h ?_ ?_
          · rw [ec, zf_pos hx, zf_pos hy, zf_pos hz, g_X7_add, s2, zf_neg (show ¬ nI n < 8 by rw [hn]; decide), zci_ok, zf_pos (Or.inl rfl)]
          · rw [g_X12_see, lk_isCake I0, zci_ok, zf_b0, zf_pos hx, sm_within, zci_ok, zf_b0, zf_pos hy, sm_within, zci_ok, zf_b0, zf_pos hz, zuI_o (by omega), s3, zf_pos (show nI n = 8 by rw [hn]; decide)]
        · obtain ⟨c, hc, rfl⟩ := hx.have h7
          obtain ⟨t, ht, rfl⟩ := in_have (n := 40) (by omega) hz
          obtain ⟨y', hy1, rfl⟩ := nI_of (x := y) (fun q => hy.1 (by rw [Int32.lt_iff_toInt_lt] at q ⊢; have a1 : (1 : Int32).toInt = 1 := rfl; have a0 : (0 : Int32).toInt = 0 := rfl; omega))
          have hy2 : ¬ y' < 1 := fun q => hy.1 ((ltO hy1 (by decide)).mpr q)
          have hy3 : ¬ 20 < y' := fun q => hy.2 ((Olt hy1 (by decide)).mpr q)
          have l8 : nI n < 8 := nI_lt (b := 8) (by omega) (by omega)
          let g := zuI (zuI (zuI (zuI h 28 0 n (nI c)) 29 0 n (nI y')) 30 0 n (nI t)) 7 0 0 (nI (n + 1))
          have e1 : f_X11_see [.inr (.inr (11, 0)), .inl (nI c), .inl (nI y'), .inl (nI t)] h = some (some (.inl 1), g) := by
            rw [ec, zf_pos hx, zf_pos hy, zf_pos hz, g_X7_add, s2, zf_pos l8, zfx (by omega) (by omega), zfx (by omega) (by omega), zfx (by omega) (by omega), zci_ok, zf_pos (Or.inr rfl), nI_clamp (by omega), nI_1]
          have gs : zsame [(28, 0), (29, 0), (30, 0), (7, 0)] h g := (((zsame.rf.set (by simp)).set (by simp)).set (by simp)).set (by simp)
          have g68 : g.1 68 0 0 = nI n := by rw [gs.1 68 0 0 (by decide)]; exact s3
          have gM : mK κ g := I.M.same I.G gs.1 (by decide)
          let f := zuI (zuI (zuI (zuI (zuI g 12 0 0 0) 69 0 n (nI c)) 70 0 n (nI y')) 71 0 n (nI t)) 68 0 0 (nI (n + 1))
          have e2 : f_X12_see [.inr (.inr (12, 0)), .inl (nI c), .inl (nI y'), .inl (nI t)] g = some (some (.inl 1), f) := by
            rw [g_X12_see, sm_isCake, zci_ok, zuI_o (by omega), gM.2.1, zf_b0, zf_pos (show ¬ nI c < 0 ∧ nI c < nI (kC κ) from hx), sm_within, zci_ok, zf_b0, zf_pos hy, sm_within, zci_ok, zf_b0, zf_pos hz, zuI_o (by omega), g68, zf_neg (fun q => by rw [eqO (by omega) (by decide)] at q; exact hn q), zfx (by omega) (by omega), zfx (by omega) (by omega), zfx (by omega) (by omega), nI_clamp (by omega), nI_1]
          have ff : ∀ K j k, ¬ (K = 12 ∧ k = 0) → ¬ (K = 68 ∧ k = 0) → ¬ ((K = 69 ∨ K = 70 ∨ K = 71) ∧ k = n) → f.1 K j k = g.1 K j k := fun K j k a b c => by
            show (zuI (zuI (zuI (zuI (zuI g 12 0 0 0) 69 0 n (nI _)) 70 0 n (nI y')) 71 0 n (nI t)) 68 0 0 (nI (n + 1))).1 K j k = _
            rw [zuI_o (by omega), zuI_o (by omega), zuI_o (by omega), zuI_o (by omega), zuI_o (by omega)]
          have gg : ∀ K j k, ¬ (K = 7 ∧ j = 0 ∧ k = 0) → ¬ ((K = 28 ∨ K = 29 ∨ K = 30) ∧ j = 0 ∧ k = n) → g.1 K j k = h.1 K j k := fun K j k a b => by
            show (zuI (zuI (zuI (zuI h 28 0 n (nI c)) 29 0 n (nI y')) 30 0 n (nI t)) 7 0 0 (nI (n + 1))).1 K j k = _
            rw [zuI_o (by omega), zuI_o (by omega), zuI_o (by omega), zuI_o (by omega)]
          have fh : ∀ K j k, ¬ (K = 12 ∧ k = 0) → ¬ (K = 68 ∧ k = 0) → ¬ ((K = 69 ∨ K = 70 ∨ K = 71) ∧ k = n) → ¬ (K = 7 ∧ j = 0 ∧ k = 0) → ¬ ((K = 28 ∨ K = 29 ∨ K = 30) ∧ j = 0 ∧ k = n) → f.1 K j k = h.1 K j k := fun K j k a b c d e => (ff K j k a b c).trans (gg K j k d e)
          have rr : f.1 72 0 = h.1 72 0 := funext (fun k => fh 72 0 k (by omega) (by omega) (by omega) (by omega) (by omega))
          refine ⟨1, g, f, e1, e2, κ, ?_, ?_⟩
          · refine IV.mono (m := m) ⟨I.G, I.K.agr (fun K k hK => fh K 0 k ?_ ?_ ?_ ?_ ?_), I.M.agr I.G (fun K k hK => fh K 0 k ?_ ?_ ?_ ?_ ?_), by rw [fh 12 0 54 (by omega) (by omega) (by omega) (by omega) (by omega)]; exact I.D, ?_, by rw [rr]; exact I.R⟩ (Nat.le_succ m)
            all_goals try (simp only [List.mem_cons, List.not_mem_nil, or_false] at hK; omega)
            rw [rr]; exact I.S.agr (fun K k hK => by have := mem4 hK; exact fh K 0 k (by omega) (by omega) (by omega) (by omega) (by omega))
          · refine IW.mono (m := m) ⟨i1.agr (fun K k hK => rfl), i2.agr (fun k => rfl), i3.agr (fh 9 0 1 (by omega) (by omega) (by omega) (by omega) (by omega)) (fh 12 0 1 (by omega) (by omega) (by omega) (by omega) (by omega)) (fun K k hK => ?_), i4.agr (fun k => fh 5 0 k (by omega) (by omega) (by omega) (by omega) (by omega)) (fh 12 0 53 (by omega) (by omega) (by omega) (by omega) (by omega)) (fun k => fh 76 0 k (by omega) (by omega) (by omega) (by omega) (by omega)) (fun K j k h1 h2 hK => ?_), i5.agr (fun K k hK => ?_) (fun K k hK => ?_), ⟨n + 1, by omega, ?_, ?_, fun k hk => ?_⟩, i7.agr2 (fh 11 0 8 (by omega) (by omega) (by omega) (by omega) (by omega)) (fun K k hK => ?_) (fun K k hK h1 h2 => ?_) (fun K k hK h1 h2 => ?_) (fun K k hK h1 => ?_) (fun K j k h1 h2 hK => ?_)⟩ (Nat.le_succ m)
            all_goals try (simp only [List.mem_cons, List.not_mem_nil, or_false] at hK; exact fh _ _ _ (by omega) (by omega) (by omega) (by omega) (by omega))
            · rw [ff 7 0 0 (by omega) (by omega) (by omega)]; exact zuI_at
            · exact zuI_at
            · by_cases e : k = n
              · subst e
                refine ⟨c, y', t, hc, by omega, by omega, ht, ?_, ?_, ?_, ?_, ?_, ?_⟩
                · rw [ff 28 0 k (by omega) (by omega) (by omega)]
                  show (zuI (zuI (zuI (zuI h 28 0 k (nI c)) 29 0 k (nI y')) 30 0 k (nI t)) 7 0 0 (nI (k + 1))).1 28 0 k = _
                  rw [zuI_o (by omega), zuI_o (by omega), zuI_o (by omega), zuI_at]
                · rw [ff 29 0 k (by omega) (by omega) (by omega)]
                  show (zuI (zuI (zuI (zuI h 28 0 k (nI c)) 29 0 k (nI y')) 30 0 k (nI t)) 7 0 0 (nI (k + 1))).1 29 0 k = _
                  rw [zuI_o (by omega), zuI_o (by omega), zuI_at]
                · rw [ff 30 0 k (by omega) (by omega) (by omega)]
                  show (zuI (zuI (zuI (zuI h 28 0 k (nI c)) 29 0 k (nI y')) 30 0 k (nI t)) 7 0 0 (nI (k + 1))).1 30 0 k = _
                  rw [zuI_o (by omega), zuI_at]
                · rw [show 8 * 0 + k = k by omega]
                  show (zuI (zuI (zuI (zuI (zuI g 12 0 0 0) 69 0 k (nI c)) 70 0 k (nI y')) 71 0 k (nI t)) 68 0 0 (nI (k + 1))).1 69 0 k = _
                  rw [zuI_o (by omega), zuI_o (by omega), zuI_o (by omega), zuI_at]
                · rw [show 8 * 0 + k = k by omega]
                  show (zuI (zuI (zuI (zuI (zuI g 12 0 0 0) 69 0 k (nI c)) 70 0 k (nI y')) 71 0 k (nI t)) 68 0 0 (nI (k + 1))).1 70 0 k = _
                  rw [zuI_o (by omega), zuI_o (by omega), zuI_at]
                · rw [show 8 * 0 + k = k by omega]
                  show (zuI (zuI (zuI (zuI (zuI g 12 0 0 0) 69 0 k (nI c)) 70 0 k (nI y')) 71 0 k (nI t)) 68 0 0 (nI (k + 1))).1 71 0 k = _
                  rw [zuI_o (by omega), zuI_at]
              · have := s4 k (by omega)
                rw [show 8 * 0 + k = k by omega] at this ⊢
                rw [fh 28 0 k (by omega) (by omega) (by omega) (by omega) (by omega), fh 29 0 k (by omega) (by omega) (by omega) (by omega) (by omega), fh 30 0 k (by omega) (by omega) (by omega) (by omega) (by omega), fh 69 0 k (by omega) (by omega) (by omega) (by omega) (by omega), fh 70 0 k (by omega) (by omega) (by omega) (by omega) (by omega), fh 71 0 k (by omega) (by omega) (by omega) (by omega) (by omega)]
                exact this
      · refine no h ?_ ?_
        · rw [ec, zf_pos hx, zf_pos hy, zf_neg hz]
        · rw [g_X12_see, lk_isCake I0, zci_ok, zf_b0, zf_pos hx, sm_within, zci_ok, zf_b0, zf_pos hy, sm_within, zci_ok, zf_b0, zf_neg hz]
    · refine no h ?_ ?_
      · rw [ec, zf_pos hx, zf_neg hy]
      · rw [g_X12_see, lk_isCake I0, zci_ok, zf_b0, zf_pos hx, sm_within, zci_ok, zf_b0, zf_neg hy]
  · refine no h ?_ ?_
    · rw [ec, zf_neg hx]
    · rw [g_X12_see, lk_isCake I0, zci_ok, zf_b0, zf_neg hx]
