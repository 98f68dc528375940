theorem nm_both {κ : zK} {m : Nat} {h : zH} (I : IV κ m h) (J : NM κ h) : ∃ wp wc, nmC 0 (kP κ) (kC κ) wp wc h ∧ nmM 0 (kP κ) (kC κ) wp wc h := by
  obtain ⟨wp, wc, q1, q2⟩ := J
  obtain ⟨a1, a2, a3, a4, -⟩ := I.K
  obtain ⟨b1, b2, -⟩ := I.M
  refine ⟨wp, wc, ⟨a2, a4, a1, a3, fun q hq => ⟨(q1 q hq).1, (q1 q hq).2.1⟩, fun q hq => ⟨(q2 q hq).1, (q2 q hq).2.1⟩⟩, ⟨a2, a4, b1, b2, fun q hq => ⟨(q1 q hq).1, ?_⟩, fun q hq => ⟨(q2 q hq).1, ?_⟩⟩⟩
  · rw [Nat.mul_zero, Nat.zero_add]; exact (q1 q hq).2.2
  · rw [Nat.mul_zero, Nat.zero_add]; exact (q2 q hq).2.2
theorem nmM.to {r n c : Nat} {wp wc : Nat → List Nat} {h g : zH} (N : nmM r n c wp wc h) (a : ∀ k, g.1 39 0 k = h.1 39 0 k) (b : ∀ K k, K = 40 ∨ K = 41 → g.2 K 0 k = h.2 K 0 k) : nmM r n c wp wc g :=
  ⟨N.1, N.2.1, by rw [a]; exact N.2.2.1, by rw [a]; exact N.2.2.2.1, fun q hq => by rw [b 40 _ (by omega)]; exact N.2.2.2.2.1 q hq, fun q hq => by rw [b 41 _ (by omega)]; exact N.2.2.2.2.2 q hq⟩
/-- what the telling of years may change -/
def yE (K j k : Nat) : Prop := K = 10 ∨ K = 9 ∨ ((j = 5 ∨ j = 0) ∧ (K = 3 ∨ K = 24 ∨ K = 25 ∨ K = 26)) ∨ (K = 12 ∧ k < 38) ∨ (K = 64 ∧ (k = 5 ∨ k = 0)) ∨ ((K = 65 ∨ K = 66 ∨ K = 67) ∧ (k < 40 ∨ 200 ≤ k))
theorem yE.inv {κ : zK} {m : Nat} {h f : zH} (I : IV κ m h) (J : IW κ m h) (a : ∀ K j k, ¬ yE K j k → f.1 K j k = h.1 K j k) (b : ∀ K j k, ¬ (K = 10 ∧ k = 6) → ¬ (K = 12 ∧ (k = 7 ∨ k = 38)) → f.2 K j k = h.2 K j k) (t1 : f.1 9 0 1 = 0) (t2 : f.1 12 0 1 = 0) (L : LN κ f 0) : Inv (m + 1) f := by
  obtain ⟨i1, i2, i3, i4, i5, i6, i7⟩ := J
  have rr : f.1 72 0 = h.1 72 0 := funext (fun k => a 72 0 k (by unfold yE; omega))
  refine ⟨κ, IV.mono (m := m) ⟨I.G, I.K.agr (fun K k hK => ?_), I.M.agr I.G (fun K k hK => ?_), ?_, ?_, by rw [rr]; exact I.R⟩ (Nat.le_succ m), IW.mono (m := m) ⟨i1.agr (fun K k hK => ?_), i2.agr (fun k => b 35 0 k (by omega) (by omega)), ⟨0, by omega, t1, t2, fun k hk => absurd hk (Nat.not_lt_zero k)⟩, i4.agr (fun k => a 5 0 k (by unfold yE; omega)) (a 12 0 53 (by unfold yE; omega)) (fun k => a 76 0 k (by unfold yE; omega)) (fun K j k h1 h2 hK => ?_), L, i6.agr (fun K k hK => ?_) (fun K k hK => ?_), i7.agr2 (a 11 0 8 (by unfold yE; omega)) (fun K k hK => ?_) (fun K k hK h1 h2 => ?_) (fun K k hK h1 h2 => ?_) (fun K k hK h1 => ?_) (fun K j k h1 h2 hK => ?_)⟩ (Nat.le_succ m)⟩
  case refine_3 => rw [a 12 0 54 (by unfold yE; omega)]; exact I.D
  case refine_4 => rw [rr]; exact I.S.agr (fun K k hK => a K 0 k (by have := mem4 hK; unfold yE; omega))
  case refine_5 => have := mem4 hK; exact b K 0 k (by omega) (by omega)
  all_goals (simp only [List.mem_cons, List.not_mem_nil, or_false] at hK; exact a _ _ _ (by unfold yE; omega))
theorem q_years {m : Nat} {h : zH} (I : Inv m h) : agree f_X11_years f_X12_years [.inr (.inr (11, 0))] [.inr (.inr (12, 0))] m h := by
  obtain ⟨κ, I, J⟩ := I
  obtain ⟨T, t1, t2, t3, t4⟩ := J.2.2.1.tx
  obtain ⟨wp, wc, NC, N⟩ := nm_both I J.1
  -- both read, from the class's heap, and from any that holds the model's cells
  have both : ∀ z : zH, (∀ k, z.1 39 0 k = h.1 39 0 k) → (∀ K k, K = 40 ∨ K = 41 → z.2 K 0 k = h.2 K 0 k) → z.1 12 0 1 = h.1 12 0 1 → (∀ k, z.1 38 0 k = h.1 38 0 k) → ∃ v gc gm, f_X6_readYears [.inr (.inr (6, 0))] h = some (some (.inl v), gc) ∧ lnS h gc ∧ gm.1 12 0 1 = 0 ∧ (∀ K j k, ¬ (K = 12 ∧ k < 38) → ¬ (K = 64 ∧ k = 5) → ¬ ((K = 65 ∨ K = 66 ∨ K = 67) ∧ 200 ≤ k) → gm.1 K j k = z.1 K j k) ∧ (∀ K j k, ¬ (K = 12 ∧ (k = 7 ∨ k = 38)) → gm.2 K j k = z.2 K j k) ∧ ((v = 0 ∧ (∃ k', L2 κ k' gc gm) ∧ f_X12_years [.inr (.inr (12, 0))] z = zcv (f_X12_laysLines [.inr (.inr (12, 0)), .inl 5, .inl 0] gm) (fun h1 => some (some (.inl 0), h1))) ∨ (¬ v = 0 ∧ f_X12_years [.inr (.inr (12, 0))] z = some (some (.inl v), gm))) := fun z z1 z2 z3 z4 => by
    obtain ⟨gc, gm, a1, a2, a3, a4, a5, a6, a7⟩ := j_begin (T := T) (hc := zuI h 3 5 0 0) (hm := zuI (zuI z 12 0 0 0) 64 0 5 0) t1 J.2.1 (by rw [zuI_o (by omega)]; exact t2) (fun k hk => by rw [zuI_o (by omega)]; exact (t4 k hk).1) (by rw [zuI_o (by omega), zuI_o (by omega), z3]; exact t3) (fun k hk => by rw [zuI_o (by omega), zuI_o (by omega), z4]; exact (t4 k hk).2)
    have L : L2 κ 0 gc gm := ⟨by omega, by rw [a3.1 3 5 0 (by omega), zuI_at]; rfl, by rw [a4 64 0 5 (by omega), zuI_at]; rfl, fun i hi => absurd hi (Nat.not_lt_zero i)⟩
    have c0 : lnS h gc := ((tkS.rf (h := h)).ln.set (by omega)).trans a3.ln
    have N' : nmM 0 (kP κ) (kC κ) wp wc gm := N.to (fun k => by rw [a4 39 0 k (by omega), zuI_o (by omega), zuI_o (by omega)]; exact z1 k) (fun K k hK => by rw [a5 K 0 k (by omega)]; exact z2 K k hK)
    obtain ⟨v, fc, fm, b1, b2, b3, b4⟩ := y_loop (κ := κ) rfl rfl T.1 0 0 0 gc gm (by omega) (by omega) a7 L (NC.kc c0) N'
    have e1 : f_X6_readYears [.inr (.inr (6, 0))] h = some (some (.inl v), fc) := by
      rw [g_X6_readYears, a1, zcv_ok]; exact b1
    have e2 : f_X12_years [.inr (.inr (12, 0))] z = zL p_X12_years 16 [some (.inr (.inr (12, 0)))] [] gm := by
      rw [g_X12_years, a2, zcv_ok]
    refine ⟨v, fc, fm, e1, c0.trans b2, by rw [b3.1 12 0 1 (by omega) (by omega) (by omega)]; exact a6, fun K j k n1 n2 n3 => ?_, fun K j k n1 => ?_, ?_⟩
    · rw [b3.1 K j k (by omega) (by omega) (by omega), a4 K j k (by omega), zuI_o (by omega), zuI_o (by omega)]
    · rw [b3.2 K j k (by omega), a5 K j k (by omega)]; rfl
    · rw [e2]
      rcases b4 with ⟨d1, d2, d3, d4⟩ | ⟨d1, d2⟩
      · refine Or.inl ⟨d1, d2, ?_⟩
        rw [d3, e_X12_years_16, zf_pos d4]
      · exact Or.inr ⟨d1, d2⟩
  obtain ⟨v, gc, -, a1, a2, -⟩ := both h (fun _ => rfl) (fun _ _ _ => rfl) rfl (fun _ => rfl)
  by_cases ev : v = 0
  · -- told
    let g : zH := zcI (zcI (zcI (zuI (zuI gc 9 0 1 0) 3 0 0 ((zuI gc 9 0 1 0).1 3 5 0)) 24 5 24 0 40) 25 5 25 0 40) 26 5 26 0 40
    have e1 : f_X11_years [.inr (.inr (11, 0))] h = some (some (.inl v), g) := by
      rw [g_X11_years, a1, zci_ok, zf_pos ev, g_X3_copyFrom, zcv_ok]
    have gg : ∀ K j k, ¬ (K = 9 ∧ j = 0 ∧ k = 1) → ¬ (j = 0 ∧ (K = 3 ∨ K = 24 ∨ K = 25 ∨ K = 26)) → g.1 K j k = gc.1 K j k := fun K j k n1 n2 => by
      show (zcI (zcI (zcI (zuI (zuI gc 9 0 1 0) 3 0 0 ((zuI gc 9 0 1 0).1 3 5 0)) 24 5 24 0 40) 25 5 25 0 40) 26 5 26 0 40).1 K j k = _
      rw [zcI_o (by omega), zcI_o (by omega), zcI_o (by omega), zuI_o (by omega), zuI_o (by omega)]
    have g3 : g.1 3 0 0 = gc.1 3 5 0 := by
      show (zcI (zcI (zcI (zuI (zuI gc 9 0 1 0) 3 0 0 ((zuI gc 9 0 1 0).1 3 5 0)) 24 5 24 0 40) 25 5 25 0 40) 26 5 26 0 40).1 3 0 0 = _
      rw [zcI_o (by omega), zcI_o (by omega), zcI_o (by omega), zuI_at, zuI_o (by omega)]
    have g24 : ∀ k, k < 40 → g.1 24 0 k = gc.1 24 5 k := fun k hk => by
      show (zcI (zcI (zcI (zuI (zuI gc 9 0 1 0) 3 0 0 ((zuI gc 9 0 1 0).1 3 5 0)) 24 5 24 0 40) 25 5 25 0 40) 26 5 26 0 40).1 24 0 k = _
      rw [zcI_o (by omega), zcI_o (by omega), zcI_1 hk, zuI_o (by omega), zuI_o (by omega)]
    have g25 : ∀ k, k < 40 → g.1 25 0 k = gc.1 25 5 k := fun k hk => by
      show (zcI (zcI (zcI (zuI (zuI gc 9 0 1 0) 3 0 0 ((zuI gc 9 0 1 0).1 3 5 0)) 24 5 24 0 40) 25 5 25 0 40) 26 5 26 0 40).1 25 0 k = _
      rw [zcI_o (by omega), zcI_1 hk, zcI_o (by omega), zuI_o (by omega), zuI_o (by omega)]
    have g26 : ∀ k, k < 40 → g.1 26 0 k = gc.1 26 5 k := fun k hk => by
      show (zcI (zcI (zcI (zuI (zuI gc 9 0 1 0) 3 0 0 ((zuI gc 9 0 1 0).1 3 5 0)) 24 5 24 0 40) 25 5 25 0 40) 26 5 26 0 40).1 26 0 k = _
      rw [zcI_1 hk, zcI_o (by omega), zcI_o (by omega), zuI_o (by omega), zuI_o (by omega)]
    have gh : ∀ K j k, ¬ (K = 9 ∧ j = 0 ∧ k = 1) → ¬ (K = 10 ∧ j = 0) → ¬ ((j = 0 ∨ j = 5) ∧ (K = 3 ∨ K = 24 ∨ K = 25 ∨ K = 26)) → g.1 K j k = h.1 K j k := fun K j k n1 n2 n3 => by
      rw [gg K j k n1 (by omega), a2.1 K j k n2 (by omega)]
    have g2 : g.2 = gc.2 := rfl
    obtain ⟨v', gc', gm, b1, b2, b3, b4, b5, b6⟩ := both g (fun k => gh 39 0 k (by omega) (by omega) (by omega)) (fun K k hK => by rw [g2]; exact a2.2 K 0 k (by omega)) (gh 12 0 1 (by omega) (by omega) (by omega)) (fun k => gh 38 0 k (by omega) (by omega) (by omega))
    have eq := b1.symm.trans a1
    injection eq with eq
    injection eq with eq1 eq2
    injection eq1 with eq1
    injection eq1 with eq1
    subst eq1 eq2
    obtain ⟨-, ⟨k', l1, l2, l3, l4⟩, d2⟩ := b6.resolve_right (fun z => z.1 ev)
    obtain ⟨f, c1, c2, c3, c4⟩ := ml_laysLines (h := gm) (a := 5) (b := 0) (by omega) (by omega) (by omega)
    have c1 : f_X12_laysLines [.inr (.inr (12, 0)), .inl 5, .inl 0] gm = some (none, f) := c1
    rw [c1, zcv_ok] at d2
    have fq : ∀ K j k, ¬ (64 ≤ K ∧ K ≤ 67 ∧ j = 0) → f.1 K j k = gm.1 K j k := fun K j k q => c2.1 K j k (fun z => by simp only [List.mem_cons, List.not_mem_nil, or_false, Prod.mk.injEq] at z; omega)
    have f65 : ∀ K k, K = 65 ∨ K = 66 ∨ K = 67 → f.1 K 0 k = if k < 40 then gm.1 K 0 (200 + k) else gm.1 K 0 k := fun K k hK => by
      rw [c4 K k (by simp only [List.mem_cons, List.not_mem_nil, or_false]; exact hK)]
      by_cases e : k < 40
      · rw [if_pos e, if_pos (by omega)]; rfl
      · rw [if_neg e, if_neg (by omega)]
    have fg : ∀ K j k, ¬ (64 ≤ K ∧ K ≤ 67 ∧ j = 0) → ¬ (K = 12 ∧ k < 38) → ¬ (K = 64 ∧ k = 5) → ¬ ((K = 65 ∨ K = 66 ∨ K = 67) ∧ 200 ≤ k) → f.1 K j k = g.1 K j k := fun K j k n1 n2 n3 n4 => by rw [fq K j k n1, b4 K j k n2 n3 n4]
    refine ⟨v', g, f, e1, by rw [ev]; exact d2, yE.inv I J (fun K j k n => ?_) (fun K j k n1 n2 => ?_) ?_ ?_ ⟨k', l1, ?_, ?_, fun i hi => ?_⟩⟩
    · unfold yE at n
      by_cases e1 : K = 64 ∧ j = 0
      · obtain ⟨rfl, rfl⟩ := e1
        rw [c3 k, if_neg (by omega), b4 64 0 k (by omega) (by omega) (by omega), gh 64 0 k (by omega) (by omega) (by omega)]
      · by_cases e2 : (K = 65 ∨ K = 66 ∨ K = 67) ∧ j = 0
        · obtain ⟨e2, rfl⟩ := e2
          rw [f65 K k e2, if_neg (by omega), b4 K 0 k (by omega) (by omega) (by omega), gh K 0 k (by omega) (by omega) (by omega)]
        · rw [fg K j k (by omega) (by omega) (by omega) (by omega), gh K j k (by omega) (by omega) (by omega)]
    · rw [c2.2, b5 K j k (by omega), g2]; exact a2.2 K j k (by omega)
    · rw [fg 9 0 1 (by omega) (by omega) (by omega) (by omega)]
      show (zcI (zcI (zcI (zuI (zuI gc' 9 0 1 0) 3 0 0 ((zuI gc' 9 0 1 0).1 3 5 0)) 24 5 24 0 40) 25 5 25 0 40) 26 5 26 0 40).1 9 0 1 = _
      rw [zcI_o (by omega), zcI_o (by omega), zcI_o (by omega), zuI_o (by omega), zuI_at]
    · rw [fq 12 0 1 (by omega)]; exact b3
    · rw [fg 3 0 0 (by omega) (by omega) (by omega) (by omega), g3]; exact l2
    · rw [c3 0, if_pos rfl]; exact l3
    · rw [fg 24 0 i (by omega) (by omega) (by omega) (by omega), fg 25 0 i (by omega) (by omega) (by omega) (by omega), fg 26 0 i (by omega) (by omega) (by omega) (by omega), g24 i (by omega), g25 i (by omega), g26 i (by omega), f65 65 _ (by omega), f65 66 _ (by omega), f65 67 _ (by omega), if_pos (by omega), if_pos (by omega), if_pos (by omega), Nat.mul_zero, Nat.zero_add]
      exact l4 i hi
  · -- refused
    have e1 : f_X11_years [.inr (.inr (11, 0))] h = some (some (.inl v), zuI gc 9 0 1 0) := by
      rw [g_X11_years, a1, zci_ok, zf_neg ev]
    have gh : ∀ K j k, ¬ (K = 9 ∧ j = 0 ∧ k = 1) → ¬ (K = 10 ∧ j = 0) → ¬ (j = 5 ∧ (K = 3 ∨ K = 24 ∨ K = 25 ∨ K = 26)) → (zuI gc 9 0 1 0).1 K j k = h.1 K j k := fun K j k n1 n2 n3 => by
      rw [zuI_o (by omega), a2.1 K j k n2 n3]
    obtain ⟨v', gc', gm, b1, b2, b3, b4, b5, b6⟩ := both (zuI gc 9 0 1 0) (fun k => gh 39 0 k (by omega) (by omega) (by omega)) (fun K k hK => a2.2 K 0 k (by omega)) (gh 12 0 1 (by omega) (by omega) (by omega)) (fun k => gh 38 0 k (by omega) (by omega) (by omega))
    have eq := b1.symm.trans a1
    injection eq with eq
    injection eq with eq1 eq2
    injection eq1 with eq1
    injection eq1 with eq1
    subst eq1 eq2
    obtain ⟨-, d2⟩ := b6.resolve_left (fun z => ev z.1)
    refine ⟨v', _, gm, e1, d2, yE.inv I J (fun K j k n => ?_) (fun K j k n1 n2 => ?_) ?_ b3 (J.2.2.2.2.1.agr2 (fun K k hK => ?_) ?_ (fun K k hK h1 h2 => ?_))⟩
    · unfold yE at n
      rw [b4 K j k (by omega) (by omega) (by omega), gh K j k (by omega) (by omega) (by omega)]
    · rw [b5 K j k (by omega)]; exact a2.2 K j k (by omega)
    · rw [b4 9 0 1 (by omega) (by omega) (by omega), zuI_at]
    · have := mem4 hK; rw [b4 K 0 k (by omega) (by omega) (by omega), gh K 0 k (by omega) (by omega) (by omega)]
    · rw [b4 64 0 0 (by omega) (by omega) (by omega), gh 64 0 0 (by omega) (by omega) (by omega)]
    · simp only [List.mem_cons, List.not_mem_nil, or_false] at hK
      rw [b4 K 0 k (by omega) (by omega) (by omega), gh K 0 k (by omega) (by omega) (by omega)]
