/-! Calls that only look: the first. -/
theorem hr0 {h : zH} {v : Int32} : (zuI h 12 0 0 v).1 72 0 = h.1 72 0 := quiet.thrown.row
theorem zbits_and {p q : Nat → Prop} {n : Nat} (hn : n ≤ 32) : zbits p n &&& zbits q n = zbits (fun c => p c ∧ q c) n := zbits_of hn (fun i hi => by
  rw [tb_and hi, tb_bits hn hi, tb_bits hn hi]
  exact ⟨fun z => ⟨z.1.1, z.1.2, z.2.2⟩, fun z => ⟨⟨z.1, z.2.1⟩, z.1, z.2.2⟩⟩)
theorem lk_isPower {κ : zK} {m : Nat} {h : zH} (I : IV κ m h) (x : Int32) : f_X12_isPower [.inr (.inr (12, 0)), .inl x] h = some (some (.inl (zb (isP κ x))), h) := by
  rw [sm_isPower, I.M.1]; rfl
theorem lk_isCake {κ : zK} {m : Nat} {h : zH} (I : IV κ m h) (x : Int32) : f_X12_isCake [.inr (.inr (12, 0)), .inl x] h = some (some (.inl (zb (isC κ x))), h) := by
  rw [sm_isCake, I.M.2.1]; rfl
theorem in_have {x : Int32} {n : Nat} (hn : n < 2 ^ 31) (h : ¬ x < 0 ∧ ¬ (OfNat.ofNat n : Int32) < x) : ∃ k, k ≤ n ∧ x = nI k := by
  obtain ⟨j, hj, rfl⟩ := nI_of h.1
  refine ⟨j, ?_, rfl⟩
  have := h.2
  rw [Olt hj hn] at this
  exact Nat.not_lt.mp this
theorem q_power {m : Nat} {h : zH} (I : Inv m h) (x y : Int32) : agree f_X11_power f_X12_power [.inr (.inr (11, 0)), .inl x, .inl y] [.inr (.inr (12, 0)), .inl x, .inl y] m h := by
  obtain ⟨κ, I, J⟩ := I
  have I0 : IV κ m (zuI h 12 0 0 0) := I.quiet quiet.thrown
  have h5 := I.h5
  have h7 := I.h7
  suffices key : ∃ v, f_X11_power [.inr (.inr (11, 0)), .inl x, .inl y] h = some (some (.inl v), h) ∧ f_X12_power [.inr (.inr (12, 0)), .inl x, .inl y] h = some (some (.inl v), zuI h 12 0 0 0) by
    obtain ⟨v, e1, e2⟩ := key
    exact agree.look I J e1 quiet.rf e2 quiet.thrown
  rw [g_X11_power, g_X12_power, cl_hasPower I.K, lk_isPower I0, zci_ok, zci_ok, zf_b0, zf_b0, sm_within, zci_ok, zf_b0]
  by_cases hx : isP κ x
  · obtain ⟨a, ha, rfl⟩ := hx.have h5
    rw [zf_pos hx, zf_pos hx]
    by_cases hy : ¬ y < 0 ∧ ¬ (5 : Int32) < y
    · rw [zf_pos hy]
      obtain ⟨k, hk, rfl⟩ := in_have (n := 5) (by omega) hy
      match k, hk with
      | 0, _ =>
        rw [zf_pos (show nI 0 = 0 by decide), cl_kindOf I.K ha, zci_ok, zf_pos (show nI 0 < 2 by decide), zf_pos (show nI 0 = 0 by decide), zfx (by omega) (by omega), nI_clamp (by omega), (I0.M.2.2.2.1 a ha).1]
        exact ⟨_, rfl, rfl⟩
      | 1, _ =>
        rw [zf_neg (show ¬ nI 1 = 0 by decide), zf_pos (show nI 1 = 1 by decide), cl_waterOf I.K ha, zci_ok, zf_pos (show nI 1 < 2 by decide), zf_neg (show ¬ nI 1 = 0 by decide), zfx (by omega) (by omega), nI_clamp (by omega), (I0.M.2.2.2.1 a ha).2]
        exact ⟨_, rfl, rfl⟩
      | 2, _ =>
        rw [zf_neg (show ¬ nI 2 = 0 by decide), zf_neg (show ¬ nI 2 = 1 by decide), zf_pos (show nI 2 = 2 by decide), cl_cakesOf I.K I.S, zci_ok, zf_neg (show ¬ nI 2 < 2 by decide), zf_neg (show ¬ 2 < nI 2 by decide)]
        refine ⟨_, rfl, ?_⟩
        have o97 : ∀ (a b c : Int32) (o2 : Option zV) (g : zH), zL p_X12_power 97 [some (.inr (.inr (12, 0))), some (.inl a), o2, some (.inl b), some (.inl c)] [] g = zL p_X12_power 97 [some (.inr (.inr (12, 0))), some (.inl a), none, some (.inl b), some (.inl c)] [] g := fun a b c o2 g => (e_X12_power_97 _ _ _ _ _).trans (e_X12_power_97 _ _ _ _ _).symm
        rw [o97]
        refine (zloopB (fun i b => zL p_X12_power 97 [some (.inr (.inr (12, 0))), some (.inl (nI a)), none, some (.inl b), some (.inl (nI i))] [] (zuI h 12 0 0 0)) (fun c => h.1 72 0 (10 + c) = nI a) (kC κ) (fun i b hi => ?_)).trans ?_
        · rw [e_X12_power_97, I0.M.2.1, zf_pos (nI_lt hi (by omega)), z10, zfx (by omega) (by omega), nI_clamp (by omega), hr0, zor0, nI_1]
        · rw [e_X12_power_97, I0.M.2.1, zf_neg (nI_nlt' (by omega))]
      | 3, _ =>
        rw [zf_neg (show ¬ nI 3 = 0 by decide), zf_neg (show ¬ nI 3 = 1 by decide), zf_neg (show ¬ nI 3 = 2 by decide), zf_pos (show nI 3 = 3 by decide), cl_cakesOf I.K I.S, zci_ok, cl_slivers I.K I.S, zci_ok, sj_bitCount, zci_ok, zbits_and (by omega), cnt9_tb (by omega), zf_neg (show ¬ nI 3 < 2 by decide), zf_pos (show 2 < nI 3 by decide), zf_pos (show nI 3 = 3 by decide), ml_sliversOf I0.M I0.G, zci_ok, hr0]
        exact ⟨_, rfl, rfl⟩
      | 4, _ =>
        rw [zf_neg (show ¬ nI 4 = 0 by decide), zf_neg (show ¬ nI 4 = 1 by decide), zf_neg (show ¬ nI 4 = 2 by decide), zf_neg (show ¬ nI 4 = 3 by decide), zf_pos (show nI 4 = 4 by decide), cl_foesOf I.K I.S I.G I.R ha, zci_ok, zf_neg (show ¬ nI 4 < 2 by decide), zf_pos (show 2 < nI 4 by decide), zf_neg (show ¬ nI 4 = 3 by decide), zf_pos (show nI 4 = 4 by decide), ml_foesOf I0.M I0.G I0.R ha, zci_ok, hr0]
        exact ⟨_, rfl, rfl⟩
      | 5, _ =>
        rw [zf_neg (show ¬ nI 5 = 0 by decide), zf_neg (show ¬ nI 5 = 1 by decide), zf_neg (show ¬ nI 5 = 2 by decide), zf_neg (show ¬ nI 5 = 3 by decide), zf_neg (show ¬ nI 5 = 4 by decide), zf_pos (show nI 5 = 5 by decide), cl_blocOf I.K I.S I.G I.R ha, zci_ok, zf_neg (show ¬ nI 5 < 2 by decide), zf_pos (show 2 < nI 5 by decide), zf_neg (show ¬ nI 5 = 3 by decide), zf_neg (show ¬ nI 5 = 4 by decide), ml_blocOf I0.M I0.G I0.R ha, zci_ok, hr0]
        exact ⟨_, rfl, rfl⟩
    · have n : ∀ k : Nat, k ≤ 5 → ¬ y = nI k := fun k hk e => hy (by rw [e]; exact ⟨nI_pos (by omega), by rw [Olt (b := 5) (by omega) (by decide)]; exact Nat.not_lt.mpr hk⟩)
      rw [zf_neg hy, zf_neg (show ¬ y = 0 from n 0 (by omega)), zf_neg (show ¬ y = 1 from n 1 (by omega)), zf_neg (show ¬ y = 2 from n 2 (by omega)), zf_neg (show ¬ y = 3 from n 3 (by omega)), zf_neg (show ¬ y = 4 from n 4 (by omega)), zf_neg (show ¬ y = 5 from n 5 (by omega))]
      exact ⟨_, rfl, rfl⟩
  · rw [zf_neg hx, zf_neg hx]
    exact ⟨_, rfl, rfl⟩
theorem q_cake {m : Nat} {h : zH} (I : Inv m h) (x y : Int32) : agree f_X11_cake f_X12_cake [.inr (.inr (11, 0)), .inl x, .inl y] [.inr (.inr (12, 0)), .inl x, .inl y] m h := by
  obtain ⟨κ, I, J⟩ := I
  have I0 : IV κ m (zuI h 12 0 0 0) := I.quiet quiet.thrown
  have h5 := I.h5
  have h7 := I.h7
  suffices key : ∃ v, f_X11_cake [.inr (.inr (11, 0)), .inl x, .inl y] h = some (some (.inl v), h) ∧ f_X12_cake [.inr (.inr (12, 0)), .inl x, .inl y] h = some (some (.inl v), zuI h 12 0 0 0) by
    obtain ⟨v, e1, e2⟩ := key
    exact agree.look I J e1 quiet.rf e2 quiet.thrown
  rw [g_X11_cake, g_X12_cake, cl_hasCake I.K, lk_isCake I0, zci_ok, zci_ok, zf_b0, zf_b0, sm_within, zci_ok, zf_b0]
  by_cases hx : isC κ x
  · obtain ⟨a, ha, rfl⟩ := hx.have h7
    obtain ⟨s1, s2, s3⟩ := I.S.2.2.2 a ha
    obtain ⟨k1, k2, k3, k4, k5⟩ := I.K.2.2.2.2.2.2.1 a ha
    obtain ⟨m1, m2, m3, m4, m5⟩ := I0.M.2.2.2.2.1 a ha
    rw [zf_pos hx, zf_pos hx]
    simp only [zfx (show a < 7 by omega) (show 7 < 2 ^ 31 by omega), zfx (show a < 14 by omega) (show 14 < 2 ^ 31 by omega), z3, z10, z17, zfx (show 3 + a < 24 by omega) (show 24 < 2 ^ 31 by omega), zfx (show 10 + a < 24 by omega) (show 24 < 2 ^ 31 by omega), zfx (show 17 + a < 24 by omega) (show 24 < 2 ^ 31 by omega), nI_clamp (show a < 2 ^ 31 by omega), nI_clamp (show 3 + a < 2 ^ 31 by omega), nI_clamp (show 10 + a < 2 ^ 31 by omega), nI_clamp (show 17 + a < 2 ^ 31 by omega), s1, s2, s3, k1, k4, k5, m1, m4, m5, hr0]
    by_cases hy : ¬ y < 0 ∧ ¬ (6 : Int32) < y
    · rw [zf_pos hy]
      obtain ⟨k, hk, rfl⟩ := in_have (n := 6) (by omega) hy
      match k, hk with
      | 0, _ =>
        rw [zf_pos (show nI 0 = 0 by decide), zf_pos (show nI 0 < 3 by decide), zf_pos (show nI 0 = 0 by decide)]
        exact ⟨_, rfl, rfl⟩
      | 1, _ =>
        rw [zf_neg (show ¬ nI 1 = 0 by decide), zf_pos (show nI 1 = 1 by decide), zf_pos (show nI 1 < 3 by decide), zf_neg (show ¬ nI 1 = 0 by decide), zf_pos (show nI 1 = 1 by decide)]
        exact ⟨_, rfl, rfl⟩
      | 2, _ =>
        rw [zf_neg (show ¬ nI 2 = 0 by decide), zf_neg (show ¬ nI 2 = 1 by decide), zf_pos (show nI 2 = 2 by decide), zf_pos (show nI 2 < 3 by decide), zf_neg (show ¬ nI 2 = 0 by decide), zf_neg (show ¬ nI 2 = 1 by decide)]
        exact ⟨_, rfl, rfl⟩
      | 3, _ =>
        rw [zf_neg (show ¬ nI 3 = 0 by decide), zf_neg (show ¬ nI 3 = 1 by decide), zf_neg (show ¬ nI 3 = 2 by decide), zf_pos (show nI 3 = 3 by decide), zf_neg (show ¬ nI 3 < 3 by decide), zf_pos (show nI 3 < 5 by decide), zf_pos (show nI 3 = 3 by decide)]
        exact ⟨_, rfl, rfl⟩
      | 4, _ =>
        rw [zf_neg (show ¬ nI 4 = 0 by decide), zf_neg (show ¬ nI 4 = 1 by decide), zf_neg (show ¬ nI 4 = 2 by decide), zf_neg (show ¬ nI 4 = 3 by decide), zf_pos (show nI 4 = 4 by decide), zf_neg (show ¬ nI 4 < 3 by decide), zf_pos (show nI 4 < 5 by decide), zf_neg (show ¬ nI 4 = 3 by decide), cl_hasHair I.S, zci_ok, zf_b0, zB10, tb_n]
        refine ⟨_, rfl, ?_⟩
        by_cases e : tb (h.1 72 0 2) a
        · rw [zite_pos e, zb_pos e]; rfl
        · rw [zite_neg e, zb_neg e]; rfl
      | 5, _ =>
        rw [zf_neg (show ¬ nI 5 = 0 by decide), zf_neg (show ¬ nI 5 = 1 by decide), zf_neg (show ¬ nI 5 = 2 by decide), zf_neg (show ¬ nI 5 = 3 by decide), zf_neg (show ¬ nI 5 = 4 by decide), zf_pos (show nI 5 = 5 by decide), zf_neg (show ¬ nI 5 < 3 by decide), zf_neg (show ¬ nI 5 < 5 by decide), zf_neg (show ¬ nI 5 = 6 by decide), cl_isFound I.K I.S ha, zci_ok, zf_b0, zB10, sm_isFound (by omega), zci_ok, zf_b0, zB10, m5, hr0]
        obtain ⟨p1, -⟩ := I.G.pe ha
        by_cases e : kPe κ a = zm1
        · rw [zf_pos e, zf_pos (show kPe κ a < 0 by rw [e]; decide)]; exact ⟨_, rfl, rfl⟩
        · rw [zf_neg e, zf_neg (p1.mpr e), zb_congr (and_congr_left' p1)]; exact ⟨_, rfl, rfl⟩
      | 6, _ =>
        rw [zf_neg (show ¬ nI 6 = 0 by decide), zf_neg (show ¬ nI 6 = 1 by decide), zf_neg (show ¬ nI 6 = 2 by decide), zf_neg (show ¬ nI 6 = 3 by decide), zf_neg (show ¬ nI 6 = 4 by decide), zf_neg (show ¬ nI 6 = 5 by decide), zf_pos (show nI 6 = 6 by decide), zf_neg (show ¬ nI 6 < 3 by decide), zf_neg (show ¬ nI 6 < 5 by decide), zf_pos (show nI 6 = 6 by decide)]
        exact ⟨_, rfl, rfl⟩
    · have n : ∀ k : Nat, k ≤ 6 → ¬ y = nI k := fun k hk e => hy (by rw [e]; exact ⟨nI_pos (by omega), by rw [Olt (b := 6) (by omega) (by decide)]; exact Nat.not_lt.mpr hk⟩)
      rw [zf_neg hy, zf_neg (show ¬ y = 0 from n 0 (by omega)), zf_neg (show ¬ y = 1 from n 1 (by omega)), zf_neg (show ¬ y = 2 from n 2 (by omega)), zf_neg (show ¬ y = 3 from n 3 (by omega)), zf_neg (show ¬ y = 4 from n 4 (by omega)), zf_neg (show ¬ y = 5 from n 5 (by omega)), zf_neg (show ¬ y = 6 from n 6 (by omega))]
      exact ⟨_, rfl, rfl⟩
  · rw [zf_neg hx, zf_neg hx]
    exact ⟨_, rfl, rfl⟩
theorem q_earnest {m : Nat} {h : zH} (I : Inv m h) (x y : Int32) : agree f_X11_earnest f_X12_earnest [.inr (.inr (11, 0)), .inl x, .inl y] [.inr (.inr (12, 0)), .inl x, .inl y] m h := by
  obtain ⟨κ, I, J⟩ := I
  have I0 : IV κ m (zuI h 12 0 0 0) := I.quiet quiet.thrown
  have h5 := I.h5
  suffices key : ∃ v, f_X11_earnest [.inr (.inr (11, 0)), .inl x, .inl y] h = some (some (.inl v), h) ∧ f_X12_earnest [.inr (.inr (12, 0)), .inl x, .inl y] h = some (some (.inl v), zuI h 12 0 0 0) by
    obtain ⟨v, e1, e2⟩ := key
    exact agree.look I J e1 quiet.rf e2 quiet.thrown
  rw [g_X11_earnest, g_X12_earnest, cl_hasPower I.K, lk_isPower I0, zci_ok, zci_ok, zf_b0, zf_b0, cl_hasPower I.K, lk_isPower I0, zci_ok, zci_ok, zf_b0, zf_b0]
  by_cases hx : isP κ x
  · by_cases hy : isP κ y
    · rw [zf_pos hx, zf_pos hx, zf_pos hy, zf_pos hy]
      obtain ⟨a, ha, rfl⟩ := hx.have h5
      obtain ⟨b, hb, rfl⟩ := hy.have h5
      rw [cl_areInEarnest I.K I.S I.G I.R ha hb, zci_ok, zf_b0, zB10, ml_areEarnest I0.M I0.G I0.R ha hb, zci_ok, zf_b0, zB10, hr0]
      by_cases e : nI a = nI b
      · rw [zf_pos e, zf_pos e]; exact ⟨_, rfl, rfl⟩
      · rw [zf_neg e, zf_neg e]; exact ⟨_, rfl, rfl⟩
    · rw [zf_pos hx, zf_pos hx, zf_neg hy, zf_neg hy]; exact ⟨_, rfl, rfl⟩
  · rw [zf_neg hx, zf_neg hx]; exact ⟨_, rfl, rfl⟩
theorem q_peace {m : Nat} {h : zH} (I : Inv m h) : agree f_X11_peace f_X12_peace [.inr (.inr (11, 0))] [.inr (.inr (12, 0))] m h := by
  obtain ⟨κ, I, J⟩ := I
  have I0 : IV κ m (zuI h 12 0 0 0) := I.quiet quiet.thrown
  have h7 := I.h7
  refine agree.look I J (v := zbits (fun c => 0 < h.1 72 0 (3 + c) ∧ tb (h.1 72 0 2) c ∧ ¬ kSe κ c = h.1 72 0 (10 + c)) (kC κ)) (h1 := h) (h2 := zuI h 12 0 0 0) ?_ quiet.rf ?_ quiet.thrown
  · rw [g_X11_peace, cl_warringCakes I.K I.S, zci_ok]
  · rw [g_X12_peace]
    refine (zloopB (fun i b => zL p_X12_peace 9 [some (.inr (.inr (12, 0))), some (.inl b), some (.inl (nI i))] [] (zuI h 12 0 0 0)) (fun c => 0 < h.1 72 0 (3 + c) ∧ tb (h.1 72 0 2) c ∧ ¬ kSe κ c = h.1 72 0 (10 + c)) (kC κ) (fun i b hi => ?_)).trans ?_
    · rw [e_X12_peace_9, I0.M.2.1, zf_pos (nI_lt hi (by omega)), sm_isThere (by omega), zci_ok, zf_b0, sm_hasHair, tb_f, zci_ok, zf_b0, z10, zfx (by omega) (by omega), zfx (by omega) (by omega), nI_clamp (by omega), nI_clamp (by omega), (I0.M.2.2.2.2.1 i hi).1, hr0, zor0, nI_1, ← zf_not (c := kSe κ i = h.1 72 0 (10 + i)), zf_and, zf_and, and_assoc]
    · rw [e_X12_peace_9, I0.M.2.1, zf_neg (nI_nlt' (by omega))]
theorem q_devoted {m : Nat} {h : zH} (I : Inv m h) : agree f_X11_devoted f_X12_devoted [.inr (.inr (11, 0))] [.inr (.inr (12, 0))] m h := by
  obtain ⟨κ, I, J⟩ := I
  have I0 : IV κ m (zuI h 12 0 0 0) := I.quiet quiet.thrown
  have h5 := I.h5
  have h7 := I.h7
  let sl : Nat → Int32 := fun p => nI (cnt9 (fun c => h.1 72 0 (10 + c) = nI p ∧ (0 < h.1 72 0 (3 + c) ∧ ¬ kSl κ < h.1 72 0 (3 + c))) (kC κ))
  let nx : Nat → Int32 × Int32 → Int32 × Int32 := fun i s => @ite _ (s.1 < sl i) (Classical.propDecidable _) (sl i, nI i) s
  have oo : ∀ a b c o5 (g : zH), zL p_X11_devoted 15 [some (.inr (.inr (11, 0))), some (.inr (.inr (8, 0))), some (.inl a), some (.inl b), some (.inl c), o5] [] g = zL p_X11_devoted 15 [some (.inr (.inr (11, 0))), some (.inr (.inr (8, 0))), some (.inl a), some (.inl b), some (.inl c), none] [] g := fun a b c o5 g => (e_X11_devoted_15 _ _ _ _ _ _).trans (e_X11_devoted_15 _ _ _ _ _ _).symm
  refine agree.look I J (v := (zit nx (0, zm1) (kP κ)).2) (h1 := h) (h2 := zuI h 12 0 0 0) ?_ quiet.rf ?_ quiet.thrown
  · rw [g_X11_devoted]
    refine (zloop (fun i (s : Int32 × Int32) => zL p_X11_devoted 15 [some (.inr (.inr (11, 0))), some (.inr (.inr (8, 0))), some (.inl s.1), some (.inl s.2), some (.inl (nI i)), none] [] h) nx (kP κ) (0, zm1) (fun i s hi => ?_)).trans ?_
    · rw [e_X11_devoted_15, I.K.1, zf_pos (nI_lt hi (by omega)), cl_cakesOf I.K I.S, zci_ok, cl_slivers I.K I.S, zci_ok, sj_bitCount, zci_ok, zbits_and (by omega), cnt9_tb (by omega), nI_1]
      show zf (s.1 < sl i) _ _ = zL p_X11_devoted 15 [some (.inr (.inr (11, 0))), some (.inr (.inr (8, 0))), some (.inl (nx i s).1), some (.inl (nx i s).2), some (.inl (nI (i + 1))), none] [] h
      by_cases e : s.1 < sl i
      · rw [zf_pos e, oo, show nx i s = (sl i, nI i) from zite_pos e]
      · rw [zf_neg e, oo, show nx i s = s from zite_neg e]
    · rw [e_X11_devoted_15, I.K.1, zf_neg (nI_nlt' (by omega))]
  · rw [g_X12_devoted]
    refine (zloop (fun i (s : Int32 × Int32) => zL p_X12_devoted 11 [some (.inr (.inr (12, 0))), some (.inl s.2), some (.inl s.1), some (.inl (nI i))] [] (zuI h 12 0 0 0)) nx (kP κ) (0, zm1) (fun i s hi => ?_)).trans ?_
    · rw [e_X12_devoted_11, I0.M.1, zf_pos (nI_lt hi (by omega)), ml_sliversOf I0.M I0.G, zci_ok, hr0, nI_1]
      show zf (s.1 < sl i) _ _ = zL p_X12_devoted 11 [some (.inr (.inr (12, 0))), some (.inl (nx i s).2), some (.inl (nx i s).1), some (.inl (nI (i + 1)))] [] (zuI h 12 0 0 0)
      by_cases e : s.1 < sl i
      · rw [zf_pos e, ml_sliversOf I0.M I0.G, zci_ok, hr0, show nx i s = (sl i, nI i) from zite_pos e]
      · rw [zf_neg e, show nx i s = s from zite_neg e]
    · rw [e_X12_devoted_11, I0.M.1, zf_neg (nI_nlt' (by omega))]
