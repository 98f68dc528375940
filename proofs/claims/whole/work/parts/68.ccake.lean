/-! A cake's line. -/
noncomputable def mWP (w : Int64) (k : zH → Option zRes) (h : zH) : Option zRes := zci (f_X12_needsWord [.inr (.inr (12, 0)), .inr (.inl w)] h) (fun r5 h4 => zf (r5 = 0) (some (some (.inl 0), h4)) (zci (f_X12_needsPower [.inr (.inr (12, 0)), .inl 1] h4) (fun r7 h6 => zf (r7 = 0) (some (some (.inl 0), h6)) (k h6))))
/-- a word, then a power's name -/
theorem j_wp {T : zTx} {p i n c : Nat} {wp wc : Nat → List Nat} {w : Int64} {x : Int32} {hc hm : zH} (k : zH → Option zRes) (R : RD T p hc hm) (NC : nmC 1 n c wp wc hc) (N : nmM 1 n c wp wc hm) (hi : i < 27) (hw : w = lN (enc 27 (kws.getD i []))) : ∃ c1 v c2, f_X10_takeWord [.inr (.inr (10, 0)), .inl (nI i)] hc = some (none, c1) ∧ tkS hc c1 ∧ f_X6_takePower [.inr (.inr (6, 0)), .inr (.inr (0, 1)), .inl x] c1 = some (some (.inl v), c2) ∧ ((∃ gm, mWP w k hm = some (some (.inl 0), gm) ∧ fl9 T hc hm c2 gm) ∨ (∃ gm s p', s < n ∧ mWP w k hm = k gm ∧ gm.1 12 0 37 = nI s ∧ gm.2 12 0 38 = hm.2 12 0 38 ∧ tmG hm gm ∧ RD T p' c1 gm ∧ p ≤ p' ∧ ((nI s = x ∧ c2 = zuI c1 10 0 7 (nI (3 + 16 * kB T p'))) ∨ (¬ nI s = x ∧ v = nI s ∧ f_X10_step [.inr (.inr (10, 0))] c1 = some (none, c2))))) := by
  obtain ⟨c1, m1, a1, a2⟩ := j_word R hi hw
  rcases a2 with ⟨b1, b2, b3, b4⟩ | ⟨b1, F, b2, b3, b4, b5⟩
  · have NC1 : nmC 1 n c wp wc c1 := NC.kc b2.ln
    have N1 : nmM 1 n c wp wc m1 := N.kc b3.G.lm
    have C := cl_takePower (x := x) b4 NC1
    have M := ml_needsPower (r := 1) b4 (by omega) N1
    have e : ∀ g r, f_X12_needsPower [.inr (.inr (12, 0)), .inl (nI 1)] m1 = some (some (.inl r), g) → mWP w k hm = zf (r = 0) (some (some (.inl 0), g)) (k g) := fun g r q => by
      have q : f_X12_needsPower [.inr (.inr (12, 0)), .inl 1] m1 = some (some (.inl r), g) := q
      unfold mWP
      rw [b1, zci_ok, zf_neg (by decide), q, zci_ok]
    by_cases kk : kK T (kE T p) = 1 ∧ 23 ≤ kI T (kE T p)
    · rcases fi9_or (n := n) (P := fun q => wp q = kW T (kE T p)) (by have := N.1; omega) with l1 | ⟨s, hs, l1, l2⟩
      · refine ⟨c1, _, _, a1, b2, (C.1 kk).1 l1, Or.inl ⟨_, (e _ _ ((M.1 kk).1 l1)).trans (zf_pos rfl _ _), ?_⟩⟩
        exact ⟨_, FC.set b4.t1 b4.le (by omega) (by omega), zuI_at, b2.trans tkS.rf.set, b3.G.trans ((tmG.rf.set (by omega)).set (by omega))⟩
      · have ek := (e _ _ ((M.1 kk).2 l2)).trans (zf_neg (by decide) _ _)
        have R' : RD T (kE T p) c1 (zuI m1 12 0 37 (fi9 n (fun q => wp q = kW T (kE T p)))) := b4.keep (fun _ _ _ => rfl) (fun _ _ _ => rfl) (fun q hq => by rw [zuI_o (by omega)]) rfl (fun q => by rw [zuI_o (by omega)])
        have f38 : (zuI m1 12 0 37 (fi9 n (fun q => wp q = kW T (kE T p)))).2 12 0 38 = hm.2 12 0 38 := by rw [zuI_2, b3.2 12 0 38 (by omega)]
        by_cases l3 : nI s = x
        · exact ⟨c1, _, _, a1, b2, (C.1 kk).2.1 l2 (l1.trans l3), Or.inr ⟨_, s, kE T p, hs, ek, by rw [zuI_at, l1], f38, b3.G.trans (tmG.rf.set (by omega)), R', kE_ge R.le, Or.inl ⟨l3, rfl⟩⟩⟩
        · obtain ⟨gc, -, d1, -⟩ := j_step b4
          exact ⟨c1, _, gc, a1, b2, (C.1 kk).2.2 l2 (fun z => l3 (l1.symm.trans z)) gc d1, Or.inr ⟨_, s, kE T p, hs, ek, by rw [zuI_at, l1], f38, b3.G.trans (tmG.rf.set (by omega)), R', kE_ge R.le, Or.inr ⟨l3, l1, d1⟩⟩⟩
    · refine ⟨c1, _, _, a1, b2, C.2 kk, Or.inl ⟨_, (e _ _ (M.2 kk)).trans (zf_pos rfl _ _), ?_⟩⟩
      exact ⟨_, FC.set b4.t1 b4.le (by omega) (by omega), zuI_at, b2.trans tkS.rf.set, b3.G.trans (tmG.rf.set (by omega))⟩
  · obtain ⟨v, ev⟩ := fl_takePower (j := 1) (x := x) b2.ne NC.1 (by rw [b4.1 0 1 0 (by omega)]; exact NC.2.2.1)
    refine ⟨c1, v, c1, a1, b4, ev, Or.inl ⟨m1, ?_, F, b2, b3, b4, b5⟩⟩
    unfold mWP
    rw [b1, zci_ok, zf_pos rfl]
noncomputable def cC4 (x r12 : Int32) (h11 : zH) : Option zRes := zf (vp_in x 7) (zcv (f_X10_takeWord [.inr (.inr (10, 0)), .inl 6] (zuI h11 19 1 x.toNatClampNeg r12)) (fun h13 => zci (f_X10_takeNumber [.inr (.inr (10, 0)), .inl 0, .inl 9] h13) (fun r15 h14 => zf (vp_in x 7) (zf (vp_in x 7) (some (none, (zuI (zuI (zuI h14 20 1 x.toNatClampNeg r15) 21 1 x.toNatClampNeg zm1) 0 1 4 ((h14.1 0 1 4) + (1))))) none) none))) none
noncomputable def cC3 (x r9 : Int32) (h8 : zH) : Option zRes := zf (vp_in x 7) (zcv (f_X10_takeWord [.inr (.inr (10, 0)), .inl 5] (zuI h8 18 1 x.toNatClampNeg r9)) (fun h10 => zci (f_X10_takeNumber [.inr (.inr (10, 0)), .inl 1, .inl 40] h10) (fun r12 h11 => cC4 x r12 h11))) none
noncomputable def cC2 (x r6 : Int32) (h5 : zH) : Option zRes := zf (vp_in x 7) (zcv (f_X10_takeWord [.inr (.inr (10, 0)), .inl 4] (zuI h5 17 1 x.toNatClampNeg r6)) (fun h7 => zf (vp_in x 7) (zci (f_X6_takePower [.inr (.inr (6, 0)), .inr (.inr (0, 1)), .inl (h7.1 17 1 x.toNatClampNeg)] h7) (fun r9 h8 => cC3 x r9 h8)) none)) none
noncomputable def cC1 (x : Int32) (r3 : Int64) (h2 : zH) : Option zRes := zf (vp_in x 7) (zcv (f_X10_takeWord [.inr (.inr (10, 0)), .inl 3] (zuJ h2 16 1 x.toNatClampNeg r3)) (fun h4 => zci (f_X6_takePower [.inr (.inr (6, 0)), .inr (.inr (0, 1)), .inl zm1] h4) (fun r6 h5 => cC2 x r6 h5))) none
theorem g_cC (h : zH) : f_X6_readCake [.inr (.inr (6, 0))] h = zf (h.1 0 1 4 < 7) (zcv (f_X10_step [.inr (.inr (10, 0))] h) (fun h1 => zcj (f_X6_takeNewName [.inr (.inr (6, 0))] h1) (fun r3 h2 => cC1 (h.1 0 1 4) r3 h2))) (zcv (f_X10_complain [.inr (.inr (10, 0)), .inl 5] h) (fun h16 => some (none, h16))) := g_X6_readCake h
noncomputable def mC4 (y : Int32) (w : Int64) (h14 : zH) : Option zRes := zf (vp_in y 14) (zci (f_X12_needsBoth [.inr (.inr (12, 0)), .inr (.inl 158683), .inl 0, .inl 9] (zuI h14 46 0 y.toNatClampNeg (h14.1 12 0 37))) (fun r17 h16 => zf (r17 = 0) (some (some (.inl 0), h16)) (zf (vp_in y 14) (zf (vp_in y 14) (zf (vp_in y 14) (zci (f_X12_closes [.inr (.inr (12, 0))] (zuI (zuJ (zuI (zuI h16 47 0 y.toNatClampNeg (h16.1 12 0 37)) 48 0 y.toNatClampNeg zm1) 41 0 y.toNatClampNeg w) 39 0 4 ((h16.1 39 0 4) + (1)))) (fun r19 h18 => zf (r19 = 0 ∨ r19 = 1) (some (some (.inl r19), h18)) none)) none) none) none))) none
noncomputable def mC3 (y : Int32) (w : Int64) (h13 : zH) : Option zRes := zci (f_X12_needsBoth [.inr (.inr (12, 0)), .inr (.inl 10792937), .inl 1, .inl 40] h13) (fun r15 h14 => zf (r15 = 0) (some (some (.inl 0), h14)) (mC4 y w h14))
noncomputable def mC2 (y : Int32) (w : Int64) (h11 : zH) : Option zRes := zf (vp_in y 14) (zf (h11.1 12 0 37 = h11.1 44 0 y.toNatClampNeg) (zci (f_X12_fails [.inr (.inr (12, 0)), .inl 3] h11) (fun r21 h20 => zf (r21 = 0 ∨ r21 = 1) (some (some (.inl r21), h20)) none)) (zf (vp_in y 14) (zcv (f_X12_nextToken [.inr (.inr (12, 0))] (zuI h11 45 0 y.toNatClampNeg (h11.1 12 0 37))) (fun h13 => mC3 y w h13)) none)) none
noncomputable def mC1 (y : Int32) (w : Int64) (h6 : zH) : Option zRes := zf (vp_in y 14) (zcv (f_X12_nextToken [.inr (.inr (12, 0))] (zuI h6 44 0 y.toNatClampNeg (h6.1 12 0 37))) (fun h8 => mWP 555 (mC2 y w) h8)) none
theorem g_mC (h : zH) : f_X12_readsCake [.inr (.inr (12, 0))] h = zf (((7 : Int32) + (h.1 39 0 4)) = 14) (zci (f_X12_fails [.inr (.inr (12, 0)), .inl 5] h) (fun r23 h22 => zf (r23 = 0 ∨ r23 = 1) (some (some (.inl r23), h22)) none)) (zcv (f_X12_nextToken [.inr (.inr (12, 0))] h) (fun h1 => zci (f_X12_needsNew [.inr (.inr (12, 0))] h1) (fun r3 h2 => zf (r3 = 0) (some (some (.inl 0), h2)) (mWP 131638 (mC1 ((7 : Int32) + (h.1 39 0 4)) (h2.2 12 0 38)) h2)))) := g_X12_readsCake h
theorem fC4 {F c : Nat} {r : Int32} {h : zH} (f : FC F h) (hc : c < 7) : ∃ g, cC4 (nI c) r h = some (none, g) ∧ FC F g ∧ cgS h g := by
  have f1 : FC F (zuI h 19 1 c r) := f.o (by omega)
  unfold cC4
  rw [zfx hc (by omega), nI_clamp (by omega), fl_takeWord f1.ne, zcv_ok, fl_takeNumber f1.ne, zci_ok, zfx hc (by omega), zfx hc (by omega)]
  exact ⟨_, rfl, ((f1.o (by omega)).o (by omega)).o (by omega), (((cgS.rf.set (by omega)).set (by omega)).set (by omega)).set (by omega)⟩
theorem fC3 {F c : Nat} {r : Int32} {h : zH} (f : FC F h) (hc : c < 7) : ∃ g, cC3 (nI c) r h = some (none, g) ∧ FC F g ∧ cgS h g := by
  have f1 : FC F (zuI h 18 1 c r) := f.o (by omega)
  unfold cC3
  rw [zfx hc (by omega), nI_clamp (by omega), fl_takeWord f1.ne, zcv_ok, fl_takeNumber f1.ne, zci_ok]
  obtain ⟨g, a1, a2, a3⟩ := fC4 (r := (zuI h 18 1 c r).1 10 0 5) f1 hc
  exact ⟨g, a1, a2, (cgS.rf.set (by omega)).trans a3⟩
theorem fC2 {F c n : Nat} {r : Int32} {h : zH} (f : FC F h) (hc : c < 7) (hn : n ≤ 5) (h0 : h.1 0 1 0 = nI n) : ∃ g, cC2 (nI c) r h = some (none, g) ∧ FC F g ∧ cgS h g := by
  have f1 : FC F (zuI h 17 1 c r) := f.o (by omega)
  unfold cC2
  obtain ⟨v, ev⟩ := fl_takePower (j := 1) (x := (zuI h 17 1 c r).1 17 1 c) f1.ne hn (by rw [zuI_o (by omega)]; exact h0)
  rw [zfx hc (by omega), nI_clamp (by omega), fl_takeWord f1.ne, zcv_ok, zfx hc (by omega), ev, zci_ok]
  obtain ⟨g, a1, a2, a3⟩ := fC3 (r := v) f1 hc
  exact ⟨g, a1, a2, (cgS.rf.set (by omega)).trans a3⟩
theorem fC1 {F c n : Nat} {r : Int64} {h : zH} (f : FC F h) (hc : c < 7) (hn : n ≤ 5) (h0 : h.1 0 1 0 = nI n) : ∃ g, cC1 (nI c) r h = some (none, g) ∧ FC F g ∧ cgS h g := by
  have f1 : FC F (zuJ h 16 1 c r) := f.oJ
  unfold cC1
  obtain ⟨v, ev⟩ := fl_takePower (j := 1) (x := zm1) f1.ne hn (show (zuJ h 16 1 c r).1 0 1 0 = nI n from h0)
  rw [zfx hc (by omega), nI_clamp (by omega), fl_takeWord f1.ne, zcv_ok, ev, zci_ok]
  obtain ⟨g, a1, a2, a3⟩ := fC2 (r := v) f1 hc hn h0
  exact ⟨g, a1, a2, (cgS.rf.setJ (by omega)).trans a3⟩
