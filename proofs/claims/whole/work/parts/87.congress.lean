theorem q_congress {m : Nat} {h : zH} (I : Inv m h) : agree f_X11_congress f_X12_congress [.inr (.inr (11, 0))] [.inr (.inr (12, 0))] m h := by
  obtain ⟨κ, I, J⟩ := I
  obtain ⟨T, t1, t2, t3, t4⟩ := J.2.2.1.tx
  have both : ∀ z : zH, z.1 12 0 1 = h.1 12 0 1 → (∀ k, z.1 38 0 k = h.1 38 0 k) → _ := fun z z1 z2 => c_both (h := h) (z := z) t1 J.2.1 t2 (fun k hk => (t4 k hk).1) (by rw [z1]; exact t3) (fun k hk => by rw [z2]; exact (t4 k hk).2)
  obtain ⟨v, gc, gm0, a1, a2, -, -, -, a3⟩ := both h rfl (fun _ => rfl)
  by_cases ev : v = 0
  case neg =>
    have e1 : f_X11_congress [.inr (.inr (11, 0))] h = some (some (.inl v), zuI gc 9 0 1 0) := by
      rw [g_X11_congress, a1, zci_ok, zf_neg ev]
    have zh : ∀ K j k, ¬ (K = 10 ∧ j = 0) → ¬ (j = 1 ∧ (K ≤ 1 ∨ (13 ≤ K ∧ K ≤ 22))) → ¬ (K = 6 ∧ j = 0) → ¬ (K = 9 ∧ j = 0 ∧ k = 1) → ¬ (K = 12 ∧ j = 0 ∧ k = 0) → (zuI (zuI gc 9 0 1 0) 12 0 0 0).1 K j k = h.1 K j k := fun K j k n1 n2 n3 n4 n5 => by rw [zuI_o n5, zuI_o n4]; exact a2.1 K j k n1 n2 n3
    obtain ⟨v', gc', gm, b1, b2, b3, b4, b5, b6⟩ := both (zuI (zuI gc 9 0 1 0) 12 0 0 0) (zh 12 0 1 (by omega) (by omega) (by omega) (by omega) (by omega)) (fun k => zh 38 0 k (by omega) (by omega) (by omega) (by omega) (by omega))
    have eq := b1.symm.trans a1
    injection eq with eq
    injection eq with eq1 eq2
    injection eq1 with eq1
    injection eq1 with eq1
    subst eq1 eq2
    obtain ⟨-, d1, d2⟩ := b6.resolve_left (fun z => ev z.1)
    refine ⟨v', _, gm, e1, by rw [g_X12_congress, d1, zci_ok, zf_pos rfl, d2], cE.inv I J (fun K j k n => ?_) (fun K k hK => ?_) ?_ b5⟩
    · unfold cE at n
      rw [b3 K j k (fun z => n (Or.inr (Or.inr (Or.inr (Or.inr (Or.inl z)))))) (by omega), zh K j k (by omega) (by omega) (by omega) (by omega) (by unfold mE at n; omega)]
    · rw [b4 K 0 k (by omega) (by omega) (by omega), zuI_2, zuI_2]; exact a2.2 K 0 k (by omega) (by omega)
    · rw [b3 9 0 1 (by unfold mE; omega) (by omega), zuI_o (by omega), zuI_at]
  obtain ⟨-, ⟨n0, c0, wp0, wc0, D0⟩, W0, -⟩ := a3.resolve_right (fun z => z.1 ev)
  obtain ⟨g1, p1, p2, p3, p4, p5, p6, p7, p8, p9, p10, p11, p12⟩ := cl_copyC (h := zuI gc 9 0 1 0)
  have u9 : ∀ K k, K ≠ 9 → (zuI gc 9 0 1 0).1 K 1 k = gc.1 K 1 k := fun K k hK => zuI_o (by omega)
  have cp : cpC gc g1 := ⟨by rw [p4, u9 0 _ (by omega)], by rw [p5, u9 0 _ (by omega)], by rw [p6, u9 0 _ (by omega)], by rw [p7, u9 1 _ (by omega)], fun k hk => by rw [(p8 k hk).1, (p8 k hk).2, u9 14 _ (by omega), u9 15 _ (by omega)]; exact ⟨rfl, rfl⟩, fun k hk => by
    obtain ⟨x1, x2, x3, x4, x5⟩ := p9 k hk
    rw [x1, x2, x3, x4, x5, u9 17 _ (by omega), u9 18 _ (by omega), u9 19 _ (by omega), u9 20 _ (by omega), u9 21 _ (by omega)]; exact ⟨rfl, rfl, rfl, rfl, rfl⟩, fun k hk => by rw [p10 k hk, u9 22 _ (by omega)]⟩
  obtain ⟨κ0, -, -, -, k0, -⟩ := told D0 W0
  obtain ⟨g2, q1, q2, -⟩ := cl_begin (j := 0) (k0 g1 cp)
  let G : zH := zuI (zuI (zuI (zuI g2 3 0 0 0) 7 0 0 0) 5 0 2 0) 11 0 8 0
  have e1 : f_X11_congress [.inr (.inr (11, 0))] h = some (some (.inl v), G) := by
    rw [g_X11_congress, a1, zci_ok, zf_pos ev, p1, zcv_ok, g_X4_begin, q1, zcv_ok, zcv_ok]
  have Gf : ∀ K j k, ¬ (j = 0 ∧ (K = 3 ∨ K = 7 ∨ K = 5 ∨ K = 11)) → G.1 K j k = g2.1 K j k := fun K j k n => by
    show (zuI (zuI (zuI (zuI g2 3 0 0 0) 7 0 0 0) 5 0 2 0) 11 0 8 0).1 K j k = _
    rw [zuI_o (by omega), zuI_o (by omega), zuI_o (by omega), zuI_o (by omega)]
  have g2f : ∀ K j k, ¬ (j = 0 ∧ (K = 8 ∨ K = 31 ∨ K = 32 ∨ K = 33)) → g2.1 K j k = g1.1 K j k := fun K j k n => q2.1 K j k (fun z => by simp only [List.mem_cons, List.not_mem_nil, or_false, Prod.mk.injEq] at z; omega)
  have Gh : ∀ K j k, ¬ (j = 0 ∧ (K ≤ 11 ∨ (13 ≤ K ∧ K ≤ 22) ∨ (31 ≤ K ∧ K ≤ 33))) → ¬ (j = 1 ∧ (K ≤ 1 ∨ (13 ≤ K ∧ K ≤ 22))) → G.1 K j k = h.1 K j k := fun K j k n1 n2 => by
    rw [Gf K j k (by omega), g2f K j k (by omega), p2 K j k (by omega), zuI_o (by omega), a2.1 K j k (by omega) n2 (by omega)]
  have GJ : ∀ K j k, ¬ (j = 0 ∧ (K = 13 ∨ K = 16)) → G.2 K j k = gc.2 K j k := fun K j k n => by
    show g2.2 K j k = _
    rw [q2.2, p3 K j k n]; rfl
  obtain ⟨v', gc', gm, b1, b2, b3, b4, b5, b6⟩ := both (zuI G 12 0 0 0) (by rw [zuI_o (by omega)]; exact Gh 12 0 1 (by omega) (by omega)) (fun k => by rw [zuI_o (by omega)]; exact Gh 38 0 k (by omega) (by omega))
  have eq := b1.symm.trans a1
  injection eq with eq
  injection eq with eq1 eq2
  injection eq1 with eq1
  injection eq1 with eq1
  subst eq1 eq2
  obtain ⟨-, ⟨n, c, wp, wc, D⟩, W, d1⟩ := b6.resolve_right (fun z => z.1 ev)
  obtain ⟨κ', G', kn, kc, kC', kM'⟩ := told D W
  obtain ⟨g2', r1, -, r3⟩ := cl_begin (j := 0) (kC' g1 cp)
  have eg : g2' = g2 := by
    have := r1.symm.trans q1
    injection this with this
    injection this
  subst eg
  obtain ⟨f1, s1, s2, s3, s4, s5, s6, s7, s8⟩ := ml_laysAll (h := gm)
  have M1 := kM' f1 ⟨s4, s7, s8⟩
  obtain ⟨f2, w1, w2, w3⟩ := ml_fresh0 M1 G'
  let f3 : zH := zuI (zuI (zuI f2 64 0 0 0) 68 0 0 0) 12 0 53 0
  obtain ⟨f, x1, x2, x3⟩ := zloopE (fun i (g : zH) => zL p_X12_congress 46 [some (.inr (.inr (12, 0))), some (.inl (nI i))] [] g)
    (fun i g => zsame [(77, 0)] f3 g ∧ ∀ k, k < i → g.1 77 0 k = 0) 4 f3 ⟨zsame.rf, fun k hk => absurd hk (Nat.not_lt_zero k)⟩ (fun i g hi q => by
      obtain ⟨u1, u2⟩ := q
      rw [e_X12_congress_46, zf_pos (show nI i < 4 from nI_lt (b := 4) hi (by omega)), zfx hi (by omega), nI_clamp (by omega), nI_1, nar0]
      refine ⟨_, rfl, u1.set (by simp), fun k hk => ?_⟩
      by_cases e : k = i
      · rw [e, zuI_at]
      · rw [zuI_ne e]; exact u2 k (by omega))
  have e2 : f_X12_congress [.inr (.inr (12, 0))] G = some (some (.inl 0), f) := by
    rw [g_X12_congress, d1, zci_ok, zf_neg (show ¬ (1 : Int32) = 0 by decide), s1, zcv_ok, w1, zcv_ok]
    refine x1.trans ?_
    rw [e_X12_congress_46, zf_neg (show ¬ nI 4 < 4 by decide)]
  have ff2 : ∀ K j k, ¬ (K = 77 ∧ j = 0) → ¬ ((K = 64 ∨ K = 68) ∧ j = 0 ∧ k = 0) → ¬ (K = 12 ∧ j = 0 ∧ k = 53) → f.1 K j k = f2.1 K j k := fun K j k n1 n2 n3 => by
    rw [x2.1 K j k (fun z => by rw [List.mem_singleton, Prod.mk.injEq] at z; exact n1 z)]
    show (zuI (zuI (zuI f2 64 0 0 0) 68 0 0 0) 12 0 53 0).1 K j k = _
    rw [zuI_o (by omega), zuI_o (by omega), zuI_o (by omega)]
  have ff1 : ∀ K j k, ¬ (j = 0 ∧ (K = 72 ∨ K = 77)) → ¬ ((K = 64 ∨ K = 68) ∧ j = 0 ∧ k = 0) → ¬ (K = 12 ∧ j = 0 ∧ k = 53) → f.1 K j k = f1.1 K j k := fun K j k n1 n2 n3 => by
    rw [ff2 K j k (by omega) n2 n3, w2.1 K j k (fun z => by rw [List.mem_singleton, Prod.mk.injEq] at z; omega)]
  have fG : ∀ K j k, ¬ (j = 0 ∧ (K = 72 ∨ K = 77)) → ¬ (K = 12) → ¬ (39 ≤ K ∧ K ≤ 53) → ¬ ((K = 64 ∨ K = 68) ∧ j = 0 ∧ k = 0) → f.1 K j k = G.1 K j k := fun K j k n1 n2 n3 n4 => by
    rw [ff1 K j k n1 n4 (by omega), s2 K j k (by omega), b3 K j k (by unfold mE; omega) (by omega), zuI_o (by omega)]
  have fJ : f.2 = f1.2 := by rw [x2.2]; show f2.2 = _; rw [w2.2]
  have h7 := G'.2.1
  have r72 : f.1 72 0 = fun k => if k < 24 then freshR κ' k else f1.1 72 0 k := by
    rw [← w3]; funext k; exact ff2 72 0 k (by omega) (by omega) (by omega)
  have hN : n ≤ 5 := D.n5
  have hC : c ≤ 7 := D.c7
  refine ⟨v', G, f, e1, by rw [ev]; exact e2, κ', IV.mono (m := 0) ⟨G', (kC' g1 cp).agr (fun K k hK => ?_), M1.agr G' (fun K k hK => ?_), ?_, ?_, by rw [r72]; exact freshR_gR G' _⟩ (Nat.zero_le _), ⟨⟨wp, wc, fun q hq => ?_, fun q hq => ?_⟩, fun i hi => ?_, ⟨0, by omega, ?_, ?_, fun k hk => absurd hk (Nat.not_lt_zero k)⟩, ?_, ⟨0, by omega, ?_, ?_, fun k hk => absurd hk (Nat.not_lt_zero k)⟩, ⟨0, by omega, ?_, ?_, fun k hk => absurd hk (Nat.not_lt_zero k)⟩, fun i hi => Or.inr ⟨?_, x3 i hi⟩⟩⟩
  · simp only [List.mem_cons, List.not_mem_nil, or_false] at hK
    rw [fG K 0 k (by omega) (by omega) (by omega) (by omega), Gf K 0 k (by omega), g2f K 0 k (by omega)]
  · simp only [List.mem_cons, List.not_mem_nil, or_false] at hK
    exact ff1 K 0 k (by omega) (by omega) (by omega)
  · rw [ff1 12 0 54 (by omega) (by omega) (by omega), s2 12 0 54 (by omega), b3 12 0 54 (by unfold mE; omega) (by omega), zuI_o (by omega), Gh 12 0 54 (by omega) (by omega)]; exact I.D
  · refine (r3.agr (g := f) (fun K k hK => ?_)).row h7 (fun k hk => by rw [r72]; dsimp only; rw [if_pos hk])
    have := mem4 hK
    rw [fG K 0 k (by omega) (by omega) (by omega) (by omega), Gf K 0 k (by omega)]
  · have hq : q < n := by rw [← kn]; exact hq
    obtain ⟨o1, o2⟩ := D.1.2.2.2.2.1 q hq
    refine ⟨o1, ?_, ?_⟩
    · rw [fJ, s3 13 0 q (by omega), b4 13 0 q (by omega) (by omega) (by omega)]
      show g2'.2 13 0 q = _
      rw [q2.2, p11 q (by omega)]; exact o2
    · rw [fJ, s5 q (by omega)]; exact (D.2.1.2.2.2.2.1 q hq).2
  · have hq : q < c := by rw [← kc]; exact hq
    obtain ⟨o1, o2⟩ := D.1.2.2.2.2.2 q hq
    refine ⟨o1, ?_, ?_⟩
    · rw [fJ, s3 16 0 q (by omega), b4 16 0 q (by omega) (by omega) (by omega)]
      show g2'.2 16 0 q = _
      rw [q2.2, p12 q (by omega)]; exact o2
    · rw [fJ, s6 q (by omega)]; exact (D.2.1.2.2.2.2.2 q hq).2
  · rw [fJ, s3 35 0 i (by omega), b4 35 0 i (by omega) (by omega) (by omega), zuI_2, GJ 35 0 i (by omega), a2.2 35 0 i (by omega) (by omega)]; exact J.2.1 i hi
  · rw [fG 9 0 1 (by omega) (by omega) (by omega) (by omega), Gf 9 0 1 (by omega), g2f 9 0 1 (by omega), p2 9 0 1 (by omega), zuI_at]; rfl
  · rw [ff1 12 0 1 (by omega) (by omega) (by omega), s2 12 0 1 (by omega)]; exact b5
  · obtain ⟨d, n9, pa1, pa2, pa3, pa4, pa5, pa6⟩ := J.2.2.2.1
    refine ⟨0, n9, by omega, pa2, ?_, ?_, ?_, fun i hi => absurd hi (Nat.not_lt_zero i)⟩
    · rw [fG 5 0 1 (by omega) (by omega) (by omega) (by omega)]
      show (zuI (zuI (zuI (zuI g2' 3 0 0 0) 7 0 0 0) 5 0 2 0) 11 0 8 0).1 5 0 1 = _
      rw [zuI_o (by omega), zuI_o (by omega), zuI_o (by omega), zuI_o (by omega), g2f 5 0 1 (by omega), p2 5 0 1 (by omega), zuI_o (by omega), a2.1 5 0 1 (by omega) (by omega) (by omega)]; exact pa3
    · rw [fG 5 0 2 (by omega) (by omega) (by omega) (by omega)]
      show (zuI (zuI (zuI (zuI g2' 3 0 0 0) 7 0 0 0) 5 0 2 0) 11 0 8 0).1 5 0 2 = _
      rw [zuI_o (by omega), zuI_at]; rfl
    · rw [x2.1 12 0 53 (by decide)]
      show (zuI (zuI (zuI f2 64 0 0 0) 68 0 0 0) 12 0 53 0).1 12 0 53 = _
      rw [zuI_at]; rfl
  · rw [fG 3 0 0 (by omega) (by omega) (by omega) (by omega)]
    show (zuI (zuI (zuI (zuI g2' 3 0 0 0) 7 0 0 0) 5 0 2 0) 11 0 8 0).1 3 0 0 = _
    rw [zuI_o (by omega), zuI_o (by omega), zuI_o (by omega), zuI_at]; rfl
  · rw [x2.1 64 0 0 (by decide)]
    show (zuI (zuI (zuI f2 64 0 0 0) 68 0 0 0) 12 0 53 0).1 64 0 0 = _
    rw [zuI_o (by omega), zuI_o (by omega), zuI_at]; rfl
  · rw [fG 7 0 0 (by omega) (by omega) (by omega) (by omega)]
    show (zuI (zuI (zuI (zuI g2' 3 0 0 0) 7 0 0 0) 5 0 2 0) 11 0 8 0).1 7 0 0 = _
    rw [zuI_o (by omega), zuI_o (by omega), zuI_at]; rfl
  · rw [x2.1 68 0 0 (by decide)]
    show (zuI (zuI (zuI f2 64 0 0 0) 68 0 0 0) 12 0 53 0).1 68 0 0 = _
    rw [zuI_o (by omega), zuI_at]; rfl
  · rw [fG 11 0 8 (by omega) (by omega) (by omega) (by omega)]
    show ¬ tb ((zuI (zuI (zuI (zuI g2' 3 0 0 0) 7 0 0 0) 5 0 2 0) 11 0 8 0).1 11 0 8) i
    rw [zuI_at]; exact tb_zero (by omega)
