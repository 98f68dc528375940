/-! The calls by hand. -/
theorem hand_ok {κ : zK} {m a : Nat} {h : zH} {x y : Int32} (I : IV κ m h) (J : IW κ m h) (ha : a ≤ 5) (hc : canR κ (h.1 72 0) a x y) : ∃ g f0, f_X11_doByHand [.inr (.inr (11, 0)), .inl (nI a), .inl x, .inl y] h = some (some (.inl 1), g) ∧ cK κ g ∧ cS κ g 0 (doR κ (h.1 72 0) a x y) ∧ mK κ (zuI g 12 0 0 0) ∧ (zuI g 12 0 0 0).1 72 0 = h.1 72 0 ∧
    f_X12_keeps [.inr (.inr (12, 0))] (zuI g 12 0 0 0) = some (none, f0) ∧ mK κ f0 ∧ f0.1 72 0 = h.1 72 0 ∧ f0.1 12 0 54 = 0 ∧ ∀ f : zH, f.2 = f0.2 → (∀ K j k, K ≠ 72 → ¬ scr K j k → f.1 K j k = f0.1 K j k) → f.1 72 0 = doR κ (h.1 72 0) a x y → Inv (m + 1) f := by
  have J' := J
  obtain ⟨-, -, -, ⟨d, n, p1, p2, p3, p4, p5, p6⟩, -⟩ := J'
  obtain ⟨g, e1, e2, e3, e4, e5, e6⟩ := lc_hand I ha p1 p2 p3 p4 x y hc
  have gg : ∀ K j k, ¬ ((K = 8 ∨ K = 31 ∨ K = 32 ∨ K = 33) ∧ (j = 0 ∨ j = 5 + n)) → K ≠ 5 → K ≠ 23 → g.1 K j k = h.1 K j k := fun K j k q1 q2 q3 => e2.1 K j k (fun q => by
    simp only [Sj, List.mem_append, List.mem_cons, List.not_mem_nil, or_false, Prod.mk.injEq] at q
    omega)
  have g0 : ∀ K j k, ¬ ((K = 8 ∨ K = 31 ∨ K = 32 ∨ K = 33) ∧ (j = 0 ∨ j = 5 + n)) → K ≠ 5 → K ≠ 23 → ¬ (K = 12 ∧ k = 0) → (zuI g 12 0 0 0).1 K j k = h.1 K j k := fun K j k q1 q2 q3 q4 => by rw [zuI_o (by omega)]; exact gg K j k q1 q2 q3
  obtain ⟨f0, k1, k2, k3, k4, k5⟩ := ml_keeps (h := zuI g 12 0 0 0) p1 (by rw [g0 12 0 53 (by omega) (by omega) (by omega) (by omega)]; exact p5)
  have r0 : (zuI g 12 0 0 0).1 72 0 = h.1 72 0 := funext (fun k => g0 72 0 k (by omega) (by omega) (by omega) (by omega))
  have M0 : mK κ (zuI g 12 0 0 0) := I.M.agr I.G (fun K k hK => by simp only [List.mem_cons, List.not_mem_nil, or_false] at hK; exact g0 K 0 k (by omega) (by omega) (by omega) (by omega))
  have rf : f0.1 72 0 = h.1 72 0 := by rw [← r0]; exact funext (fun k => k3 72 0 k (by omega) (by omega))
  refine ⟨g, f0, e1, I.K.agr (fun K k hK => by simp only [List.mem_cons, List.not_mem_nil, or_false] at hK; exact gg K 0 k (by omega) (by omega) (by omega)), e3, M0, r0, k1, M0.agr I.G (fun K k hK => by simp only [List.mem_cons, List.not_mem_nil, or_false] at hK; exact k3 K 0 k (by omega) (by omega)), rf, ?_, fun f f1 f2 f3 => ?_⟩
  · rw [k3 12 0 54 (by omega) (by omega), g0 12 0 54 (by omega) (by omega) (by omega) (by omega)]; exact I.D
  · have uu : ∀ i, ur (zuI g 12 0 0 0) i = ur h i := fun i => funext (fun k => g0 76 0 _ (by omega) (by omega) (by omega) (by omega))
    refine hand_inv (a := a) I J p1 p2 p3 p4 (I.R.act I.h5 I.h7 ha hc) e2 e3 e4 e5 e6 (f1.trans k2) (fun K j k q1 q2 q3 q4 => ?_) ?_ (fun i k hi hk => ?_) f3
    · rw [f2 K j k q2 q4, k3 K j k (fun z => q1 z.1) (fun z => q3 ⟨z.1, z.2.2⟩), zuI_o (fun z => q4 (by unfold scr; omega))]
    · rw [f2 12 0 53 (by omega) (by unfold scr; omega)]; exact k4
    · have e : ur f i k = ur f0 i k := f2 76 0 _ (by omega) (by unfold scr; omega)
      rw [e, k5 i k hi hk]
      unfold kpR
      rw [uu, uu, r0]
theorem canR_no {κ : zK} {r : zRo} {a : Nat} {x y : Int32} (ha : a ≠ 5) (hx : ¬ isC κ x) : ¬ canR κ r a x y := by
  unfold canR; rw [if_neg ha]; exact fun z => hx z.1
theorem canR_0 {κ : zK} {r : zRo} {c : Nat} {y : Int32} (h7 : kC κ ≤ 7) (hc : c < kC κ) : canR κ r 0 (nI c) y ↔ (0 < r (3 + c) ∧ ¬ tb (r 2) c) := by
  unfold canR
  rw [if_neg (by decide), if_neg (by decide), if_neg (by decide), if_neg (by decide), nI_clamp (by omega)]
  exact ⟨fun z => z.2, fun z => ⟨isC_nI h7 hc, z⟩⟩
theorem canR_1 {κ : zK} {r : zRo} {c : Nat} {y : Int32} (h7 : kC κ ≤ 7) (hc : c < kC κ) : canR κ r 1 (nI c) y ↔ (0 < r (3 + c) ∧ ¬ tb (r 2) c) := by
  unfold canR
  rw [if_neg (by decide), if_neg (by decide), if_neg (by decide), if_neg (by decide), nI_clamp (by omega)]
  exact ⟨fun z => z.2, fun z => ⟨isC_nI h7 hc, z⟩⟩
theorem canR_2 {κ : zK} {r : zRo} {c : Nat} {y : Int32} (h7 : kC κ ≤ 7) (hc : c < kC κ) : canR κ r 2 (nI c) y ↔ tb (r 2) c := by
  unfold canR
  rw [if_neg (by decide), if_pos rfl, nI_clamp (by omega)]
  exact ⟨fun z => z.2, fun z => ⟨isC_nI h7 hc, z⟩⟩
theorem canR_3 {κ : zK} {r : zRo} {c : Nat} {y : Int32} (h7 : kC κ ≤ 7) (hc : c < kC κ) : canR κ r 3 (nI c) y ↔ (isP κ y ∧ (0 < r (3 + c) ∧ ¬ r (10 + c) = y)) := by
  unfold canR
  rw [if_neg (by decide), if_neg (by decide), if_pos rfl, nI_clamp (by omega)]
  exact ⟨fun z => ⟨z.2.2.1, z.2.1, fun e => z.2.2.2 e.symm⟩, fun z => ⟨isC_nI h7 hc, z.2.1, z.1, fun e => z.2.2 e.symm⟩⟩
theorem canR_4 {κ : zK} {r : zRo} {c : Nat} {y : Int32} (h7 : kC κ ≤ 7) (hc : c < kC κ) : canR κ r 4 (nI c) y ↔ (0 < r (3 + c) ∧ 0 < r (17 + c)) := by
  unfold canR
  rw [if_neg (by decide), if_neg (by decide), if_neg (by decide), if_pos rfl, nI_clamp (by omega)]
  exact ⟨fun z => z.2, fun z => ⟨isC_nI h7 hc, z⟩⟩
theorem mc_isCake {κ : zK} {h : zH} (M : mK κ h) (x : Int32) : f_X12_isCake [.inr (.inr (12, 0)), .inl x] h = some (some (.inl (zb (isC κ x))), h) := by
  rw [sm_isCake, M.2.1]; rfl
theorem mc_isPower {κ : zK} {h : zH} (M : mK κ h) (x : Int32) : f_X12_isPower [.inr (.inr (12, 0)), .inl x] h = some (some (.inl (zb (isP κ x))), h) := by
  rw [sm_isPower, M.1]; rfl
theorem q_wash {m : Nat} {h : zH} (I : Inv m h) (x : Int32) : agree f_X11_wash f_X12_wash [.inr (.inr (11, 0)), .inl x] [.inr (.inr (12, 0)), .inl x] m h := by
  obtain ⟨κ, I, J⟩ := I
  have h7 := I.h7
  have h5 := I.h5
  have I0 : IV κ m (zuI h 12 0 0 0) := I.quiet quiet.thrown
  by_cases hx : isC κ x
  · obtain ⟨c, hc, rfl⟩ := hx.have h7
    have cc := canR_0 (κ := κ) (r := h.1 72 0) (y := zm1) h7 hc
    by_cases hn : 0 < h.1 72 0 (3 + c) ∧ ¬ tb (h.1 72 0 2) c
    · obtain ⟨g, f0, e1, Kg, Sg, M0, r0, k1, Mf, rf, Df, fin⟩ := hand_ok I J (a := 0) (by omega) (cc.mpr hn)
      obtain ⟨⟨p, hp, o⟩, ⟨t, ht, o2⟩, -⟩ := I.R.1 c hc
      obtain ⟨f, a1, a2, a3⟩ := sm_washes Mf I.G hc hp (by rw [rf]; exact o) (show t < 2 ^ 30 by omega) (by rw [rf]; exact o2)
      have ed : doR κ (h.1 72 0) 0 (nI c) zm1 = washR κ (h.1 72 0) c := by
        unfold doR; rw [if_neg (by decide), if_pos rfl, nI_clamp (by omega)]
      rw [nI_0] at e1
      refine ⟨doR κ (h.1 72 0) 0 (nI c) zm1 (3 + c), g, f, ?_, ?_, fin f a2.2 (fun K j k q1 q2 => a2.1 K j k (fun q => ?_)) (by rw [a3, rf, ed])⟩
      · rw [g_X11_wash, cl_hasCake I.K, zci_ok, zf_b0, zf_pos hx, e1, zci_ok, zf_neg (show ¬ (1 : Int32) = 0 by decide), zfx (by omega) (by omega), nI_clamp (by omega), (Sg.2.2.2 c hc).2.1]
      · rw [g_X12_wash, mc_isCake M0, zci_ok, zf_b0, zf_pos hx, sm_canWash (by omega), tb_f, zci_ok, zf_b0, r0, zf_pos hn, k1, zcv_ok, a1, zcv_ok, z3, zfx (by omega) (by omega), nI_clamp (by omega), a3, rf, ed]
      · simp only [Wk, List.mem_append, List.mem_cons, List.not_mem_nil, or_false, Prod.mk.injEq] at q
        exact q2 (by unfold scr; omega)
    · refine agree.look I J (v := zm1) (h1 := h) (h2 := zuI h 12 0 0 0) ?_ quiet.rf ?_ quiet.thrown
      · have e1 := lc_handNo (a := 0) I (by omega) (nI c) zm1 (fun z => hn (cc.mp z))
        rw [nI_0] at e1
        rw [g_X11_wash, cl_hasCake I.K, zci_ok, zf_b0, zf_pos hx, e1, zci_ok, zf_pos rfl]
      · rw [g_X12_wash, lk_isCake I0, zci_ok, zf_b0, zf_pos hx, sm_canWash (by omega), tb_f, zci_ok, zf_b0, hr0, zf_neg hn]
  · refine agree.look I J (v := zm1) (h1 := h) (h2 := zuI h 12 0 0 0) ?_ quiet.rf ?_ quiet.thrown
    · rw [g_X11_wash, cl_hasCake I.K, zci_ok, zf_b0, zf_neg hx]
    · rw [g_X12_wash, lk_isCake I0, zci_ok, zf_b0, zf_neg hx]
theorem q_hair {m : Nat} {h : zH} (I : Inv m h) (x : Int32) : agree f_X11_hair f_X12_hair [.inr (.inr (11, 0)), .inl x] [.inr (.inr (12, 0)), .inl x] m h := by
  obtain ⟨κ, I, J⟩ := I
  have h7 := I.h7
  have I0 : IV κ m (zuI h 12 0 0 0) := I.quiet quiet.thrown
  by_cases hx : isC κ x
  · obtain ⟨c, hc, rfl⟩ := hx.have h7
    have cc := canR_1 (κ := κ) (r := h.1 72 0) (y := zm1) h7 hc
    by_cases hn : 0 < h.1 72 0 (3 + c) ∧ ¬ tb (h.1 72 0 2) c
    · obtain ⟨g, f0, e1, Kg, Sg, M0, r0, k1, Mf, rf, Df, fin⟩ := hand_ok I J (a := 1) (by omega) (cc.mpr hn)
      rw [show nI 1 = 1 from rfl] at e1
      refine ⟨1, g, _, ?_, ?_, fin (zuI f0 72 0 2 (h.1 72 0 2 ||| ((1 : Int32) <<< (nI c &&& 31)))) rfl (fun K j k q1 q2 => zuI_o (by omega)) ?_⟩
      · rw [g_X11_hair, e1, zci_ok, zf_pos (Or.inr rfl)]
      · rw [g_X12_hair, mc_isCake M0, zci_ok, zf_b0, zf_pos hx, sm_canWash (by omega), tb_f, zci_ok, zf_b0, r0, zf_pos hn, k1, zcv_ok, rf]
      · rw [zuI_row, rf]; unfold doR; rw [if_neg (by decide), if_neg (by decide), if_pos rfl]
    · refine agree.look I J (v := 0) (h1 := h) (h2 := zuI h 12 0 0 0) ?_ quiet.rf ?_ quiet.thrown
      · have e1 := lc_handNo (a := 1) I (by omega) (nI c) zm1 (fun z => hn (cc.mp z))
        rw [show nI 1 = 1 from rfl] at e1
        rw [g_X11_hair, e1, zci_ok, zf_pos (Or.inl rfl)]
      · rw [g_X12_hair, lk_isCake I0, zci_ok, zf_b0, zf_pos hx, sm_canWash (by omega), tb_f, zci_ok, zf_b0, hr0, zf_neg hn]
  · refine agree.look I J (v := 0) (h1 := h) (h2 := zuI h 12 0 0 0) ?_ quiet.rf ?_ quiet.thrown
    · have e1 := lc_handNo (a := 1) I (by omega) x zm1 (canR_no (by decide) hx)
      rw [show nI 1 = 1 from rfl] at e1
      rw [g_X11_hair, e1, zci_ok, zf_pos (Or.inl rfl)]
    · rw [g_X12_hair, lk_isCake I0, zci_ok, zf_b0, zf_neg hx]
theorem q_pick {m : Nat} {h : zH} (I : Inv m h) (x : Int32) : agree f_X11_pick f_X12_pick [.inr (.inr (11, 0)), .inl x] [.inr (.inr (12, 0)), .inl x] m h := by
  obtain ⟨κ, I, J⟩ := I
  have h7 := I.h7
  have I0 : IV κ m (zuI h 12 0 0 0) := I.quiet quiet.thrown
  by_cases hx : isC κ x
  · obtain ⟨c, hc, rfl⟩ := hx.have h7
    have cc := canR_2 (κ := κ) (r := h.1 72 0) (y := zm1) h7 hc
    by_cases hn : tb (h.1 72 0 2) c
    · obtain ⟨g, f0, e1, Kg, Sg, M0, r0, k1, Mf, rf, Df, fin⟩ := hand_ok I J (a := 2) (by omega) (cc.mpr hn)
      rw [show nI 2 = 2 from rfl] at e1
      refine ⟨1, g, _, ?_, ?_, fin (zuI f0 72 0 2 (h.1 72 0 2 &&& (((1 : Int32) <<< (nI c &&& 31)) ^^^ zm1))) rfl (fun K j k q1 q2 => zuI_o (by omega)) ?_⟩
      · rw [g_X11_pick, e1, zci_ok, zf_pos (Or.inr rfl)]
      · rw [g_X12_pick, mc_isCake M0, zci_ok, zf_b0, zf_pos hx, sm_hasHair, tb_f, zci_ok, zf_b0, r0, zf_pos hn, k1, zcv_ok, rf]
      · rw [zuI_row, rf]; unfold doR; rw [if_neg (by decide), if_neg (by decide), if_neg (by decide), if_pos rfl]
    · refine agree.look I J (v := 0) (h1 := h) (h2 := zuI h 12 0 0 0) ?_ quiet.rf ?_ quiet.thrown
      · have e1 := lc_handNo (a := 2) I (by omega) (nI c) zm1 (fun z => hn (cc.mp z))
        rw [show nI 2 = 2 from rfl] at e1
        rw [g_X11_pick, e1, zci_ok, zf_pos (Or.inl rfl)]
      · rw [g_X12_pick, lk_isCake I0, zci_ok, zf_b0, zf_pos hx, sm_hasHair, tb_f, zci_ok, zf_b0, hr0, zf_neg hn]
  · refine agree.look I J (v := 0) (h1 := h) (h2 := zuI h 12 0 0 0) ?_ quiet.rf ?_ quiet.thrown
    · have e1 := lc_handNo (a := 2) I (by omega) x zm1 (canR_no (by decide) hx)
      rw [show nI 2 = 2 from rfl] at e1
      rw [g_X11_pick, e1, zci_ok, zf_pos (Or.inl rfl)]
    · rw [g_X12_pick, lk_isCake I0, zci_ok, zf_b0, zf_neg hx]
theorem q_gift {m : Nat} {h : zH} (I : Inv m h) (x y : Int32) : agree f_X11_gift f_X12_gift [.inr (.inr (11, 0)), .inl x, .inl y] [.inr (.inr (12, 0)), .inl x, .inl y] m h := by
  obtain ⟨κ, I, J⟩ := I
  have h7 := I.h7
  have h5 := I.h5
  have I0 : IV κ m (zuI h 12 0 0 0) := I.quiet quiet.thrown
  by_cases hx : isC κ x
  · obtain ⟨c, hc, rfl⟩ := hx.have h7
    have cc := canR_3 (κ := κ) (r := h.1 72 0) (y := y) h7 hc
    by_cases hy : isP κ y
    · by_cases hn : 0 < h.1 72 0 (3 + c) ∧ ¬ h.1 72 0 (10 + c) = y
      · obtain ⟨g, f0, e1, Kg, Sg, M0, r0, k1, Mf, rf, Df, fin⟩ := hand_ok I J (a := 3) (by omega) (cc.mpr ⟨hy, hn⟩)
        rw [show nI 3 = 3 from rfl] at e1
        refine ⟨1, g, _, ?_, ?_, fin (zuI f0 72 0 (10 + c) y) rfl (fun K j k q1 q2 => zuI_o (by omega)) ?_⟩
        · rw [g_X11_gift, e1, zci_ok, zf_pos (Or.inr rfl)]
        · rw [g_X12_gift, mc_isCake M0, zci_ok, zf_b0, zf_pos hx, mc_isPower M0, zci_ok, zf_b0, zf_pos hy, sm_canGift (by omega), zci_ok, zf_b0, r0, zf_pos hn, k1, zcv_ok, z10, zfx (by omega) (by omega), nI_clamp (by omega)]
        · rw [zuI_row, rf]; unfold doR; rw [if_neg (by decide), if_neg (by decide), if_neg (by decide), if_neg (by decide), if_pos rfl, nI_clamp (by omega)]
      · refine agree.look I J (v := 0) (h1 := h) (h2 := zuI h 12 0 0 0) ?_ quiet.rf ?_ quiet.thrown
        · have e1 := lc_handNo (a := 3) I (by omega) (nI c) y (fun z => hn (cc.mp z).2)
          rw [show nI 3 = 3 from rfl] at e1
          rw [g_X11_gift, e1, zci_ok, zf_pos (Or.inl rfl)]
        · rw [g_X12_gift, lk_isCake I0, zci_ok, zf_b0, zf_pos hx, lk_isPower I0, zci_ok, zf_b0, zf_pos hy, sm_canGift (by omega), zci_ok, zf_b0, hr0, zf_neg hn]
    · refine agree.look I J (v := 0) (h1 := h) (h2 := zuI h 12 0 0 0) ?_ quiet.rf ?_ quiet.thrown
      · have e1 := lc_handNo (a := 3) I (by omega) (nI c) y (fun z => hy (cc.mp z).1)
        rw [show nI 3 = 3 from rfl] at e1
        rw [g_X11_gift, e1, zci_ok, zf_pos (Or.inl rfl)]
      · rw [g_X12_gift, lk_isCake I0, zci_ok, zf_b0, zf_pos hx, lk_isPower I0, zci_ok, zf_b0, zf_neg hy]
  · refine agree.look I J (v := 0) (h1 := h) (h2 := zuI h 12 0 0 0) ?_ quiet.rf ?_ quiet.thrown
    · have e1 := lc_handNo (a := 3) I (by omega) x y (canR_no (by decide) hx)
      rw [show nI 3 = 3 from rfl] at e1
      rw [g_X11_gift, e1, zci_ok, zf_pos (Or.inl rfl)]
    · rw [g_X12_gift, lk_isCake I0, zci_ok, zf_b0, zf_neg hx]
theorem q_press {m : Nat} {h : zH} (I : Inv m h) (x : Int32) : agree f_X11_press f_X12_press [.inr (.inr (11, 0)), .inl x] [.inr (.inr (12, 0)), .inl x] m h := by
  obtain ⟨κ, I, J⟩ := I
  have h7 := I.h7
  have I0 : IV κ m (zuI h 12 0 0 0) := I.quiet quiet.thrown
  by_cases hx : isC κ x
  · obtain ⟨c, hc, rfl⟩ := hx.have h7
    have cc := canR_4 (κ := κ) (r := h.1 72 0) (y := zm1) h7 hc
    by_cases hn : 0 < h.1 72 0 (3 + c) ∧ 0 < h.1 72 0 (17 + c)
    · obtain ⟨g, f0, e1, Kg, Sg, M0, r0, k1, Mf, rf, Df, fin⟩ := hand_ok I J (a := 4) (by omega) (cc.mpr hn)
      rw [show nI 4 = 4 from rfl] at e1
      have er : (zuI (zuI f0 72 0 1 (f0.1 72 0 1 + f0.1 72 0 (3 + c))) 72 0 (3 + c) 0).1 72 0 = doR κ (h.1 72 0) 4 (nI c) zm1 := by
        rw [zuI_row, zuI_row, rf]; unfold doR; rw [if_neg (by decide), if_neg (by decide), if_neg (by decide), if_neg (by decide), if_neg (by decide), nI_clamp (by omega)]
        funext k9
        by_cases b1 : k9 = 3 + c
        · rw [if_pos b1, if_neg (by omega), if_pos b1]
        · rw [if_neg b1, if_neg b1]
      refine ⟨doR κ (h.1 72 0) 4 (nI c) zm1 1, g, _, ?_, ?_, fin (zuI (zuI f0 72 0 1 (f0.1 72 0 1 + f0.1 72 0 (3 + c))) 72 0 (3 + c) 0) rfl (fun K j k q1 q2 => by rw [zuI_o (by omega), zuI_o (by omega)]) er⟩
      · rw [g_X11_press, e1, zci_ok, zf_neg (show ¬ (1 : Int32) = 0 by decide), Sg.2.1]
      · rw [g_X12_press, mc_isCake M0, zci_ok, zf_b0, zf_pos hx, sm_canPress (by omega), zci_ok, zf_b0, r0, zf_pos hn, k1, zcv_ok, sm_presses (by omega), zcv_ok, er]
    · refine agree.look I J (v := zm1) (h1 := h) (h2 := zuI h 12 0 0 0) ?_ quiet.rf ?_ quiet.thrown
      · have e1 := lc_handNo (a := 4) I (by omega) (nI c) zm1 (fun z => hn (cc.mp z))
        rw [show nI 4 = 4 from rfl] at e1
        rw [g_X11_press, e1, zci_ok, zf_pos rfl]
      · rw [g_X12_press, lk_isCake I0, zci_ok, zf_b0, zf_pos hx, sm_canPress (by omega), zci_ok, zf_b0, hr0, zf_neg hn]
  · refine agree.look I J (v := zm1) (h1 := h) (h2 := zuI h 12 0 0 0) ?_ quiet.rf ?_ quiet.thrown
    · have e1 := lc_handNo (a := 4) I (by omega) x zm1 (canR_no (by decide) hx)
      rw [show nI 4 = 4 from rfl] at e1
      rw [g_X11_press, e1, zci_ok, zf_pos rfl]
    · rw [g_X12_press, lk_isCake I0, zci_ok, zf_b0, zf_neg hx]
theorem q_week {m : Nat} {h : zH} (I : Inv m h) : agree f_X11_week f_X12_week [.inr (.inr (11, 0))] [.inr (.inr (12, 0))] m h := by
  obtain ⟨κ, I, J⟩ := I
  have h7 := I.h7
  have cc : canR κ (h.1 72 0) 5 zm1 zm1 := by unfold canR; rw [if_pos rfl]; trivial
  obtain ⟨g, f0, e1, Kg, Sg, M0, r0, k1, Mf, rf, Df, fin⟩ := hand_ok I J (a := 5) (by omega) cc
  have ed : doR κ (h.1 72 0) 5 zm1 zm1 = weekR κ nD (h.1 72 0) := by unfold doR; rw [if_pos rfl]
  rw [ed] at Sg fin
  rw [show nI 5 = 5 from rfl] at e1
  obtain ⟨f, a1, a2, a3⟩ := sm_passes0 Mf I.G (m := m) (by rw [rf]; exact I.R) Df
  rw [rf] at a1 a3
  refine ⟨zbits (fun c => canW κ nD (h.1 72 0) c ∧ ¬ 0 < weekR κ nD (h.1 72 0) (3 + c)) (kC κ), g, f, ?_, ?_, fin f a2.2 (fun K j k q1 q2 => a2.1 K j k (fun q => ?_)) a3⟩
  · rw [g_X11_week, cl_thereBits I.K I.S, zci_ok, e1, zci_ok, cl_thereBits Kg Sg, zci_ok]
    refine congrArg (fun z => some (some (Sum.inl z), g)) (zbits_of (by omega) (fun i hi => ?_))
    rw [tb_and hi, tb_not hi, tb_bits (by omega) hi, tb_bits (by omega) hi]
    constructor
    · rintro ⟨⟨b1, b2⟩, b3⟩
      refine ⟨b1, Classical.byContradiction (fun z => b3 ⟨b1, ?_⟩), fun z => b3 ⟨b1, z⟩⟩
      rw [weekR_lo h7 b1, zi_neg z]; exact b2
    · rintro ⟨b1, b2, b3⟩
      exact ⟨⟨b1, b2.1⟩, fun z => b3 z.2⟩
  · rw [g_X12_week, k1, zcv_ok, a1, zci_ok]
  · simp only [Ww, Wk, List.mem_append, List.mem_cons, List.not_mem_nil, or_false, Prod.mk.injEq] at q
    exact q2 (by unfold scr; omega)
