/-! The model: a week. -/
abbrev Ww : List (Nat × Nat) := Wk ++ [(63, 0), (72, 0)]
/-- who is dry by the model's dryNow -/
def dryB (x : Int32) : Nat → Prop := fun q => tb x q
theorem weekR_lo {κ : zK} {D : Nat → Prop} {r : zRo} {c : Nat} (h7 : kC κ ≤ 7) (hc : c < kC κ) : weekR κ D r (3 + c) = zi (canW κ D r c) (tw κ (ow r c) c (r (3 + c)) (r (17 + c))) (r (3 + c)) := by
  unfold weekR
  rw [if_neg (by omega), if_pos (by omega), show 3 + c - 3 = c by omega]
theorem weekR_us {κ : zK} {D : Nat → Prop} {r : zRo} {c : Nat} (h7 : kC κ ≤ 7) (hc : c < kC κ) : weekR κ D r (17 + c) = zi (canW κ D r c) (r (17 + c) + 1) (r (17 + c)) := by
  unfold weekR
  rw [if_neg (by omega), if_neg (by omega), if_pos (by omega), show 17 + c - 17 = c by omega]
theorem weekR_el {κ : zK} {D : Nat → Prop} {r : zRo} {k : Nat} (h0 : k ≠ 0) (h1 : ¬ (3 ≤ k ∧ k < 3 + kC κ)) (h2 : ¬ (17 ≤ k ∧ k < 17 + kC κ)) : weekR κ D r k = r k := by
  unfold weekR
  rw [if_neg h0, if_neg h1, if_neg h2]
theorem sm_passes {κ : zK} {h : zH} {m : Nat} (M : mK κ h) (G : gK κ) (R : gR κ m (h.1 72 0)) : ∃ g, f_X12_passes [.inr (.inr (12, 0))] h = some (some (.inl (zbits (fun c => canW κ (dryB (h.1 12 0 54)) (h.1 72 0) c ∧ ¬ 0 < weekR κ (dryB (h.1 12 0 54)) (h.1 72 0) (3 + c)) (kC κ))), g) ∧ zsame Ww h g ∧ g.1 72 0 = weekR κ (dryB (h.1 12 0 54)) (h.1 72 0) := by
  have h5 := G.1
  have h7 := G.2.1
  generalize hr : h.1 72 0 = r at R
  generalize hD : dryB (h.1 12 0 54) = D
  rw [g_X12_passes]
  obtain ⟨⟨b, g⟩, e1, rfl, hs, hT⟩ := zloopE (fun i (s : Int32 × zH) => zL p_X12_passes 4 [some (.inr (.inr (12, 0))), some (.inl s.1), some (.inl (nI i))] [] s.2)
    (fun i s => s.1 = zbits (fun c => canW κ D r c ∧ ¬ 0 < weekR κ D r (3 + c)) i ∧ zsame Ww h s.2 ∧ (∀ k, s.2.1 72 0 k = if 3 ≤ k ∧ k < 3 + i ∨ 17 ≤ k ∧ k < 17 + i then weekR κ D r k else r k)) (kC κ) (0, h) ⟨rfl, zsame.rf, fun k => by rw [if_neg (by omega), hr]⟩ (fun i s hi q => by
      obtain ⟨b, g⟩ := s
      obtain ⟨hb, hs, hT⟩ := q
      dsimp only at hb hs hT ⊢
      obtain ⟨⟨p, hp, o⟩, ⟨t, ht, o2⟩, u, hu, o3⟩ := R.1 i hi
      have Mg : mK κ g := M.same G hs.1 (by decide)
      have q3 : g.1 72 0 (3 + i) = r (3 + i) := by rw [hT, if_neg (by omega)]
      have q10 : g.1 72 0 (10 + i) = r (10 + i) := by rw [hT, if_neg (by omega)]
      have q17 : g.1 72 0 (17 + i) = r (17 + i) := by rw [hT, if_neg (by omega)]
      have q2 : g.1 72 0 2 = r 2 := by rw [hT, if_neg (by omega)]
      have qd : g.1 12 0 54 = h.1 12 0 54 := hs.1 12 0 54 (by decide)
      have how : ow r i = p := by unfold ow; rw [o, nI_clamp (by omega)]
      have how2 : ow (g.1 72 0) i = p := by unfold ow; rw [q10, o, nI_clamp (by omega)]
      have v10 : vp_in (nI (10 + i)) 24 := vp_in_nI (by omega) (by omega)
      have c10 : (nI (10 + i)).toNatClampNeg = 10 + i := nI_clamp (by omega)
      rw [e_X12_passes_4, Mg.2.1, zf_pp (nI_lt hi (by omega)), sm_canWash (by omega), zci_ok, q3, q2, nI_1]
      have skip : ¬ canW κ D r i → ∃ a' : Int32 × zH, zL p_X12_passes 4 [some (.inr (.inr (12, 0))), some (.inl b), some (.inl (nI (i + 1)))] [] g = zL p_X12_passes 4 [some (.inr (.inr (12, 0))), some (.inl a'.1), some (.inl (nI (i + 1)))] [] a'.2 ∧ a'.1 = zbits (fun c => canW κ D r c ∧ ¬ 0 < weekR κ D r (3 + c)) (i + 1) ∧ zsame Ww h a'.2 ∧ (∀ k, a'.2.1 72 0 k = if 3 ≤ k ∧ k < 3 + (i + 1) ∨ 17 ≤ k ∧ k < 17 + (i + 1) then weekR κ D r k else r k) := by
        intro cw
        refine ⟨(b, g), rfl, ?_, hs, fun k => ?_⟩
        · show b = @ite _ _ (Classical.propDecidable _) _ _
          rw [zite_neg (fun z => cw z.1)]; exact hb
        · dsimp only
          rw [hT]
          by_cases e : 3 ≤ k ∧ k < 3 + i ∨ 17 ≤ k ∧ k < 17 + i
          · rw [if_pos e, if_pos (by omega)]
          · rw [if_neg e]
            by_cases e3 : k = 3 + i
            · rw [if_pos (by omega), e3, weekR_lo h7 hi, zi_neg cw]
            · by_cases e4 : k = 17 + i
              · rw [if_pos (by omega), e4, weekR_us h7 hi, zi_neg cw]
              · rw [if_neg (by omega)]
      by_cases b1 : 0 < r (3 + i) ∧ ¬ (r 2 >>> (nI i &&& 31)) &&& 1 = 1
      · rw [zf_neg (show ¬ zb (0 < r (3 + i) ∧ ¬ (r 2 >>> (nI i &&& 31)) &&& 1 = 1) = 0 by rw [zb_0]; exact fun q => q b1), z10, zf_pp v10, c10, q10, o, sm_isDry (by omega), zci_ok, (Mg.2.2.2.1 p hp).1, qd]
        by_cases b2 : kKd κ p = 2 ∨ (h.1 12 0 54 >>> (nI p &&& 31)) &&& 1 = 1
        · rw [zf_neg (show ¬ zb (kKd κ p = 2 ∨ (h.1 12 0 54 >>> (nI p &&& 31)) &&& 1 = 1) = 0 by rw [zb_0]; exact fun q => q b2)]
          exact skip (fun z => z.2.2 (by rw [how, ← hD]; exact b2))
        · rw [zf_pos (show zb (kKd κ p = 2 ∨ (h.1 12 0 54 >>> (nI p &&& 31)) &&& 1 = 1) = 0 by rw [zb_0]; exact b2)]
          have cw : canW κ D r i := ⟨b1.1, b1.2, by rw [how, ← hD]; exact b2⟩
          obtain ⟨f, f1, f2, f3⟩ := sm_washes Mg G hi hp (by rw [q10, o]) (show t < 2 ^ 30 by omega) (by rw [q3, o2])
          have f4 : ∀ k, f.1 72 0 k = if k = 3 + i then weekR κ D r (3 + i) else if k = 17 + i then weekR κ D r (17 + i) else g.1 72 0 k := by
            intro k
            rw [f3]; unfold washR
            rw [how2, q3, q17, weekR_lo h7 hi, weekR_us h7 hi, zi_pos cw, zi_pos cw, how]
          rw [f1, zcv_ok, sm_isThere (by omega), zci_ok, f4 (3 + i), if_pos rfl, zor0]
          have fin : ∀ b', b' = zbits (fun c => canW κ D r c ∧ ¬ 0 < weekR κ D r (3 + c)) (i + 1) → ∃ a' : Int32 × zH, zL p_X12_passes 4 [some (.inr (.inr (12, 0))), some (.inl b'), some (.inl (nI (i + 1)))] [] f = zL p_X12_passes 4 [some (.inr (.inr (12, 0))), some (.inl a'.1), some (.inl (nI (i + 1)))] [] a'.2 ∧ a'.1 = zbits (fun c => canW κ D r c ∧ ¬ 0 < weekR κ D r (3 + c)) (i + 1) ∧ zsame Ww h a'.2 ∧ (∀ k, a'.2.1 72 0 k = if 3 ≤ k ∧ k < 3 + (i + 1) ∨ 17 ≤ k ∧ k < 17 + (i + 1) then weekR κ D r k else r k) := by
            intro b' hb'
            refine ⟨(b', f), rfl, hb', hs.trans f2, fun k => ?_⟩
            dsimp only
            rw [f4, hT]
            by_cases e3 : k = 3 + i
            · rw [if_pos e3, if_pos (by omega), e3]
            · by_cases e4 : k = 17 + i
              · rw [if_neg e3, if_pos e4, if_pos (by omega), e4]
              · rw [if_neg e3, if_neg e4]
                by_cases e : 3 ≤ k ∧ k < 3 + i ∨ 17 ≤ k ∧ k < 17 + i
                · rw [if_pos e, if_pos (by omega)]
                · rw [if_neg e, if_neg (by omega)]
          by_cases b3 : 0 < weekR κ D r (3 + i)
          · rw [zf_neg (show ¬ zb (0 < weekR κ D r (3 + i)) = 0 by rw [zb_0]; exact fun q => q b3)]
            refine fin b ?_
            show b = @ite _ _ (Classical.propDecidable _) _ _
            rw [zite_neg (fun z => z.2 b3)]; exact hb
          · rw [zf_pos (show zb (0 < weekR κ D r (3 + i)) = 0 by rw [zb_0]; exact b3)]
            refine fin _ ?_
            show _ = @ite _ _ (Classical.propDecidable _) _ _
            rw [zite_pos ⟨cw, b3⟩, hb]; rfl
      · rw [zf_pos (show zb (0 < r (3 + i) ∧ ¬ (r 2 >>> (nI i &&& 31)) &&& 1 = 1) = 0 by rw [zb_0]; exact b1)]
        exact skip (fun z => b1 ⟨z.1, z.2.1⟩))
  rw [← nI_0]
  have e1 : zL p_X12_passes 4 [some (.inr (.inr (12, 0))), some (.inl (nI 0)), some (.inl (nI 0))] [] h = zL p_X12_passes 4 [some (.inr (.inr (12, 0))), some (.inl _), some (.inl (nI (kC κ)))] [] g := e1
  have Mg : mK κ g := M.same G hs.1 (by decide)
  have hT : ∀ k, g.1 72 0 k = if 3 ≤ k ∧ k < 3 + kC κ ∨ 17 ≤ k ∧ k < 17 + kC κ then weekR κ D r k else r k := hT
  rw [e1, e_X12_passes_4, Mg.2.1, zf_neg (nI_nlt' (by omega))]
  refine ⟨_, rfl, hs.set (by simp), ?_⟩
  funext k
  by_cases e0 : k = 0
  · rw [e0, zuI_at, hT 0, if_neg (by omega)]; unfold weekR; rw [if_pos rfl]
  · rw [zuI_ne e0, hT k]
    by_cases e : 3 ≤ k ∧ k < 3 + kC κ ∨ 17 ≤ k ∧ k < 17 + kC κ
    · rw [if_pos e]
    · rw [if_neg e, weekR_el e0 (by omega) (by omega)]
/-! what holds of rows is kept -/
theorem gR.mono {κ : zK} {m m' : Nat} {r : zRo} (R : gR κ m r) (h : m ≤ m') : gR κ m' r := ⟨fun c hc => by
  obtain ⟨a, b, u, h1, h2⟩ := R.1 c hc
  exact ⟨a, b, u, by omega, h2⟩, R.2⟩
theorem gR.week {κ : zK} {m : Nat} {r : zRo} {D : Nat → Prop} (R : gR κ m r) (h7 : kC κ ≤ 7) : gR κ (m + 1) (weekR κ D r) := by
  refine ⟨fun c hc => ?_, fun c h1 h2 => ?_⟩
  · obtain ⟨⟨w, w1, w2⟩, ⟨t, t1, t2⟩, u, u1, u2⟩ := R.1 c hc
    refine ⟨⟨w, w1, by rw [weekR_el (by omega) (by omega) (by omega)]; exact w2⟩, ?_, ?_⟩
    · rw [weekR_lo h7 hc, t2, tw_nI (by omega)]
      by_cases e : canW κ D r c
      · rw [zi_pos e]; exact ⟨_, by omega, rfl⟩
      · rw [zi_neg e]; exact ⟨_, t1, rfl⟩
    · rw [weekR_us h7 hc, u2]
      by_cases e : canW κ D r c
      · rw [zi_pos e]; exact ⟨u + 1, by omega, nI_1 u⟩
      · rw [zi_neg e]; exact ⟨u, by omega, rfl⟩
  · rw [weekR_el (by omega) (by omega) (by omega)]; exact R.2 c h1 h2
theorem gR.wash {κ : zK} {m c : Nat} {r : zRo} (R : gR κ m r) (h7 : kC κ ≤ 7) (hc : c < kC κ) : gR κ (m + 1) (washR κ r c) := by
  refine ⟨fun d hd => ?_, fun d h1 h2 => ?_⟩
  · obtain ⟨⟨w, w1, w2⟩, ⟨t, t1, t2⟩, u, u1, u2⟩ := R.1 d hd
    unfold washR
    refine ⟨⟨w, w1, by rw [if_neg (by omega), if_neg (by omega)]; exact w2⟩, ?_, ?_⟩
    · by_cases e : d = c
      · subst e
        rw [if_pos rfl, t2, tw_nI (by omega)]; exact ⟨_, by omega, rfl⟩
      · rw [if_neg (by omega), if_neg (by omega)]; exact ⟨t, t1, t2⟩
    · by_cases e : d = c
      · subst e
        rw [if_neg (by omega), if_pos rfl, u2]; exact ⟨u + 1, by omega, nI_1 u⟩
      · rw [if_neg (by omega), if_neg (by omega)]; exact ⟨u, by omega, u2⟩
  · unfold washR
    rw [if_neg (by omega), if_neg (by omega)]; exact R.2 d h1 h2
theorem gR.act {κ : zK} {m a : Nat} {r : zRo} {x y : Int32} (R : gR κ m r) (h5 : kP κ ≤ 5) (h7 : kC κ ≤ 7) (ha : a ≤ 5) (hcan : canR κ r a x y) : gR κ (m + 1) (doR κ r a x y) := by
  unfold doR
  unfold canR at hcan
  by_cases e5 : a = 5
  · rw [if_pos e5]; exact R.week h7
  · rw [if_neg e5] at hcan ⊢
    obtain ⟨hx, hcan⟩ := hcan
    obtain ⟨c, hc, rfl⟩ := hx.have h7
    rw [nI_clamp (by omega)] at hcan ⊢
    have R1 := R.mono (Nat.le_succ m)
    by_cases e0 : a = 0
    · rw [if_pos e0]; exact R.wash h7 hc
    · rw [if_neg e0]
      by_cases e1 : a = 1
      · rw [if_pos e1]
        exact ⟨fun d hd => by dsimp only; rw [if_neg (by omega), if_neg (by omega), if_neg (by omega)]; exact R1.1 d hd, fun d p q => by dsimp only; rw [if_neg (by omega)]; exact R1.2 d p q⟩
      · rw [if_neg e1]
        by_cases e2 : a = 2
        · rw [if_pos e2]
          exact ⟨fun d hd => by dsimp only; rw [if_neg (by omega), if_neg (by omega), if_neg (by omega)]; exact R1.1 d hd, fun d p q => by dsimp only; rw [if_neg (by omega)]; exact R1.2 d p q⟩
        · rw [if_neg e2]
          by_cases e3 : a = 3
          · rw [if_pos e3]
            rw [if_neg e2, if_pos e3] at hcan
            obtain ⟨w, w1, w2⟩ := hcan.2.1.have h5
            refine ⟨fun d hd => ⟨?_, by dsimp only; rw [if_neg (by omega)]; exact (R1.1 d hd).2.1, by dsimp only; rw [if_neg (by omega)]; exact (R1.1 d hd).2.2⟩, fun d p q => by dsimp only; rw [if_neg (by omega)]; exact R1.2 d p q⟩
            dsimp only
            by_cases e : d = c
            · rw [if_pos (by omega)]; exact ⟨w, w1, w2⟩
            · rw [if_neg (by omega)]; exact (R1.1 d hd).1
          · rw [if_neg e3]
            refine ⟨fun d hd => ⟨by dsimp only; rw [if_neg (by omega), if_neg (by omega)]; exact (R1.1 d hd).1, ?_, by dsimp only; rw [if_neg (by omega), if_neg (by omega)]; exact (R1.1 d hd).2.2⟩, fun d p q => by dsimp only; rw [if_neg (by omega), if_neg (by omega)]; exact R1.2 d p q⟩
            dsimp only
            rw [if_neg (by omega)]
            by_cases e : d = c
            · rw [if_pos (by omega)]; exact ⟨0, by omega, rfl⟩
            · rw [if_neg (by omega)]; exact (R1.1 d hd).2.1
