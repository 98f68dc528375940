/-! All lines of a congress. -/
noncomputable def cl65 (x : Nat) (s : Int32) (h : zH) : Option zRes := zL p_X6_readCongress 65 [some (.inr (.inr (6, 0))), some (.inl (nI x))] [.inl s] h
noncomputable def cl26 (x : Nat) (h : zH) : Option zRes := zL p_X6_readCongress 26 [some (.inr (.inr (6, 0))), some (.inl (nI x))] [] h
noncomputable def ml39 (h : zH) : Option zRes := zL p_X12_readsAll 39 [some (.inr (.inr (12, 0))), none] [] h
theorem ml39_o {h : zH} (o : Option zV) : zL p_X12_readsAll 39 [some (.inr (.inr (12, 0))), o] [] h = ml39 h := (e_X12_readsAll_39 _ _).trans (e_X12_readsAll_39 _ _).symm
/-- the class's line, by its first word -/
noncomputable def lnC (s : Nat) (h : zH) : Option zRes := if s = 0 then f_X6_readPower [.inr (.inr (6, 0))] h else if s = 2 then f_X6_readCake [.inr (.inr (6, 0))] h else if s = 7 then f_X6_readPebble [.inr (.inr (6, 0))] h else if s = 8 then f_X6_readSliver [.inr (.inr (6, 0))] h else if s = 9 then f_X6_readWears [.inr (.inr (6, 0))] h else f_X10_complain [.inr (.inr (10, 0)), .inl 1] h
noncomputable def lnM (s : Nat) (h : zH) : Option zRes := if s = 0 then f_X12_readsPower [.inr (.inr (12, 0))] h else if s = 2 then f_X12_readsCake [.inr (.inr (12, 0))] h else if s = 7 then f_X12_readsPebble [.inr (.inr (12, 0))] h else if s = 8 then f_X12_readsSliver [.inr (.inr (12, 0))] h else if s = 9 then f_X12_readsWears [.inr (.inr (12, 0))] h else f_X12_fails [.inr (.inr (12, 0)), .inl 1] h
theorem cl65_nI {x s : Nat} {h : zH} (hs : s < 28) : cl65 x (nI s) h = zcv (lnC s h) (fun h1 => zcv (f_X10_takeSign [.inr (.inr (10, 0)), .inl 59] h1) (fun h2 => cl26 (x + 1) h2)) := by
  unfold cl65 lnC
  have ne : ∀ k, k < 28 → k ≠ s → ¬ nI s = nI k := fun k hk n z => n ((nI_eq (by omega) (by omega)).mp z).symm
  rw [e_X6_readCongress_65, nI_1]
  by_cases e0 : s = 0
  · subst e0; rw [if_pos rfl, zf_pos (show nI 0 = 0 from rfl)]; rfl
  rw [if_neg e0, zf_neg (show ¬ nI s = 0 from ne 0 (by omega) (by omega))]
  by_cases e1 : s = 1
  · subst e1; rw [if_neg (by omega), if_neg (by omega), if_neg (by omega), if_neg (by omega), zf_pos (show nI 1 = 1 from rfl)]; rfl
  rw [zf_neg (show ¬ nI s = 1 from ne 1 (by omega) (by omega))]
  by_cases e2 : s = 2
  · subst e2; rw [if_pos rfl, zf_pos (show nI 2 = 2 from rfl)]; rfl
  rw [if_neg e2, zf_neg (show ¬ nI s = 2 from ne 2 (by omega) (by omega))]
  by_cases e3 : s = 3
  · subst e3; rw [if_neg (by omega), if_neg (by omega), if_neg (by omega), zf_pos (show nI 3 = 3 from rfl)]; rfl
  rw [zf_neg (show ¬ nI s = 3 from ne 3 (by omega) (by omega))]
  by_cases e4 : s = 4
  · subst e4; rw [if_neg (by omega), if_neg (by omega), if_neg (by omega), zf_pos (show nI 4 = 4 from rfl)]; rfl
  rw [zf_neg (show ¬ nI s = 4 from ne 4 (by omega) (by omega))]
  by_cases e5 : s = 5
  · subst e5; rw [if_neg (by omega), if_neg (by omega), if_neg (by omega), zf_pos (show nI 5 = 5 from rfl)]; rfl
  rw [zf_neg (show ¬ nI s = 5 from ne 5 (by omega) (by omega))]
  by_cases e6 : s = 6
  · subst e6; rw [if_neg (by omega), if_neg (by omega), if_neg (by omega), zf_pos (show nI 6 = 6 from rfl)]; rfl
  rw [zf_neg (show ¬ nI s = 6 from ne 6 (by omega) (by omega))]
  by_cases e7 : s = 7
  · subst e7; rw [if_pos rfl, zf_pos (show nI 7 = 7 from rfl)]; rfl
  rw [if_neg e7, zf_neg (show ¬ nI s = 7 from ne 7 (by omega) (by omega))]
  by_cases e8 : s = 8
  · subst e8; rw [if_pos rfl, zf_pos (show nI 8 = 8 from rfl)]; rfl
  rw [if_neg e8, zf_neg (show ¬ nI s = 8 from ne 8 (by omega) (by omega))]
  by_cases e9 : s = 9
  · subst e9; rw [if_pos rfl, zf_pos (show nI 9 = 9 from rfl)]; rfl
  rw [if_neg e9, zf_neg (show ¬ nI s = 9 from ne 9 (by omega) (by omega))]; rfl
theorem cl65_m1 {x : Nat} {h : zH} : cl65 x zm1 h = zcv (f_X10_complain [.inr (.inr (10, 0)), .inl 1] h) (fun h1 => zcv (f_X10_takeSign [.inr (.inr (10, 0)), .inl 59] h1) (fun h2 => cl26 (x + 1) h2)) := by
  unfold cl65
  rw [e_X6_readCongress_65, nI_1, zf_neg (by decide), zf_neg (by decide), zf_neg (by decide), zf_neg (by decide), zf_neg (by decide), zf_neg (by decide), zf_neg (by decide), zf_neg (by decide), zf_neg (by decide), zf_neg (by decide)]; rfl
/-- which line it is: 27 none -/
noncomputable def lnK (T : zTx) (p : Nat) : Nat := zn (kK T p = 1) (kI T p) 27
theorem cl26_more {T : zTx} {p x : Nat} {hc hm : zH} (R : RD T p hc hm) (k0 : kK T p ≠ 0) (hx : x < 1000) : cl26 x hc = zcv (lnC (lnK T p) hc) (fun h1 => zcv (f_X10_takeSign [.inr (.inr (10, 0)), .inl 59] h1) (fun h2 => cl26 (x + 1) h2)) := by
  have kl := kI_le (T := T) (p := p)
  have c27 : lnC 27 hc = f_X10_complain [.inr (.inr (10, 0)), .inl 1] hc := rfl
  have l : cl26 x hc = zf (kK T p = 1) (cl65 x (hc.1 10 0 5) hc) (cl65 x zm1 hc) := by
    unfold cl26 cl65
    rw [e_X6_readCongress_26, zf_pos (show nI x < 1000 from nI_lt (b := 1000) hx (by omega)), g_X10_isMore, zf_pos R.tc.1, zf_neg (fun z => k0 ((R.tc.kind (k := 0) (by omega) 0 rfl).mp z)), zci_ok, zf_neg (show ¬ (1 : Int32) = 0 by decide), zfc (R.tc.kind (k := 1) (by omega) 2 rfl)]
  rw [l]
  unfold lnK
  by_cases k1 : kK T p = 1
  · rw [zf_pos k1, zn_pos k1, (R.tc.2.2.2.2.1 k1).2]
    by_cases e : kI T p < 27
    · rw [if_pos e, cl65_nI (by omega)]
    · rw [if_neg e, cl65_m1, show kI T p = 27 by omega, c27]
  · rw [zf_neg k1, zn_neg k1, cl65_m1, c27]
theorem ml39_more {T : zTx} {p : Nat} {hc hm : zH} (R : RD T p hc hm) (k0 : kK T p ≠ 0) : ml39 hm = zci (lnM (lnK T p) hm) (fun r h => zf (r = 0) (some (some (.inl 0), h)) (ml39 h)) := by
  have kl := kI_le (T := T) (p := p)
  have dk : ∀ i, (kK T p = 1 ∧ kI T p = i) → lnK T p = i := fun i z => by unfold lnK; rw [zn_pos z.1]; exact z.2
  have dn : ∀ i, i < 27 → ¬ (kK T p = 1 ∧ kI T p = i) → lnK T p ≠ i := fun i hi z q => by
    unfold lnK at q
    by_cases k1 : kK T p = 1
    · rw [zn_pos k1] at q; exact z ⟨k1, q⟩
    · rw [zn_neg k1] at q; omega
  unfold ml39
  rw [e_X12_readsAll_39, zf_neg (fun z => k0 ((R.tm.kind (k := 0) (by omega) 0 rfl).mp z)), ml_isWord (i := 0) R.le R.tm (by omega) mw_0, zci_ok, zf_b0, ml_isWord (i := 2) R.le R.tm (by omega) mw_2, zci_ok, zf_b0, ml_isWord (i := 7) R.le R.tm (by omega) mw_7, zci_ok, zf_b0, ml_isWord (i := 8) R.le R.tm (by omega) mw_8, zci_ok, zf_b0, ml_isWord (i := 9) R.le R.tm (by omega) mw_9, zci_ok, zf_b0]
  simp only [ml39_o]
  by_cases a0 : kK T p = 1 ∧ kI T p = 0
  · rw [zf_pos a0, dk 0 a0]; rfl
  rw [zf_neg a0]
  by_cases a2 : kK T p = 1 ∧ kI T p = 2
  · rw [zf_pos a2, dk 2 a2]; rfl
  rw [zf_neg a2]
  by_cases a7 : kK T p = 1 ∧ kI T p = 7
  · rw [zf_pos a7, dk 7 a7]; rfl
  rw [zf_neg a7]
  by_cases a8 : kK T p = 1 ∧ kI T p = 8
  · rw [zf_pos a8, dk 8 a8]; rfl
  rw [zf_neg a8]
  by_cases a9 : kK T p = 1 ∧ kI T p = 9
  · rw [zf_pos a9, dk 9 a9]; rfl
  rw [zf_neg a9]
  unfold lnM
  rw [if_neg (dn 0 (by omega) a0), if_neg (dn 2 (by omega) a2), if_neg (dn 7 (by omega) a7), if_neg (dn 8 (by omega) a8), if_neg (dn 9 (by omega) a9)]
theorem j_any {T : zTx} {p n c : Nat} {wp wc : Nat → List Nat} {hc hm : zH} (R : RD T p hc hm) (D : Dn n c wp wc hc hm) (W : LW hc hm) : oW T p hc hm (lnC (lnK T p) hc) (lnM (lnK T p) hm) := by
  unfold lnC lnM
  by_cases e0 : lnK T p = 0
  · rw [if_pos e0, if_pos e0]; exact (j_power R D).w W
  rw [if_neg e0, if_neg e0]
  by_cases e2 : lnK T p = 2
  · rw [if_pos e2, if_pos e2]; exact (j_cakeLine R D).w W
  rw [if_neg e2, if_neg e2]
  by_cases e7 : lnK T p = 7
  · rw [if_pos e7, if_pos e7]; exact (j_pebble R D).w W
  rw [if_neg e7, if_neg e7]
  by_cases e8 : lnK T p = 8
  · rw [if_pos e8, if_pos e8]; exact (j_sliver R D).w W
  rw [if_neg e8, if_neg e8]
  by_cases e9 : lnK T p = 9
  · rw [if_pos e9, if_pos e9]
    refine j_wears R D W ?_
    unfold lnK at e9
    by_cases k1 : kK T p = 1
    · rw [zn_pos k1] at e9; exact ⟨k1, e9⟩
    · rw [zn_neg k1] at e9; omega
  rw [if_neg e9, if_neg e9, cl_co (x := 1) 1 R.tc rfl, ml_fa (x := 1) 1 R.tm rfl]
  have fs := FC.set (h := hc) (k := 1) R.t1 R.le (by omega) (by omega)
  exact ⟨_, _, _, rfl, fl_takeSign fs.ne, tkS.rf.set.cg, (tmG.rf.set (by omega)).cm, Or.inr ⟨rfl, _, fs, zuI_at⟩⟩
theorem cl26_end {F x : Nat} {h : zH} (f : FC F h) : cl26 x h = some (some (.inl (nI F)), h) := by
  unfold cl26
  rw [e_X6_readCongress_26, fl_isMore f.ne, zci_ok, zf_pos rfl, f.1]
  by_cases e : nI x < 1000
  · rw [zf_pos e]
  · rw [zf_neg e]
theorem c_loop {T : zTx} : ∀ (d p x n c : Nat) (wp wc : Nat → List Nat) (hc hm : zH), T.1 - p ≤ d → x ≤ p → RD T p hc hm → Dn n c wp wc hc hm → LW hc hm → ∃ v gc gm, cl26 x hc = some (some (.inl v), gc) ∧ cgS hc gc ∧ cmS hm gm ∧ ((v = 0 ∧ (∃ n c wp wc, Dn n c wp wc gc gm) ∧ LW gc gm ∧ ml39 hm = some (some (.inl 1), gm)) ∨ (¬ v = 0 ∧ ml39 hm = some (some (.inl 0), gm) ∧ gm.1 12 0 9 = v)) := by
  have stop : ∀ (p x n c : Nat) (wp wc : Nat → List Nat) (hc hm : zH), RD T p hc hm → Dn n c wp wc hc hm → LW hc hm → kK T p = 0 → ∃ v gc gm, cl26 x hc = some (some (.inl v), gc) ∧ cgS hc gc ∧ cmS hm gm ∧ ((v = 0 ∧ (∃ n c wp wc, Dn n c wp wc gc gm) ∧ LW gc gm ∧ ml39 hm = some (some (.inl 1), gm)) ∨ (¬ v = 0 ∧ ml39 hm = some (some (.inl 0), gm) ∧ gm.1 12 0 9 = v)) := fun p x n c wp wc hc hm R D W k0 => by
    refine ⟨0, hc, hm, ?_, cgS.rf, cmS.rf, Or.inl ⟨rfl, ⟨n, c, wp, wc, D⟩, W, ?_⟩⟩
    · unfold cl26
      rw [e_X6_readCongress_26, g_X10_isMore, zf_pos R.tc.1, zf_pos ((R.tc.kind (k := 0) (by omega) 0 rfl).mpr k0), zci_ok, zf_pos rfl, R.tc.1]
      by_cases e : nI x < 1000
      · rw [zf_pos e]
      · rw [zf_neg e]
    · unfold ml39
      rw [e_X12_readsAll_39, zf_pos ((R.tm.kind (k := 0) (by omega) 0 rfl).mpr k0)]
  intro d
  induction d with
  | zero =>
    intro p x n c wp wc hc hm hd hx R D W
    exact stop p x n c wp wc hc hm R D W (kK_0.mpr (Nat.le_antisymm (kB_le R.le) (by have := kB_ge (T := T) (p := p); omega)))
  | succ d ih =>
    intro p x n c wp wc hc hm hd hx R D W
    by_cases k0 : kK T p = 0
    · exact stop p x n c wp wc hc hm R D W k0
    have t1 := R.t1
    have lt : p < T.1 := by
      have := kB_ge (T := T) (p := p)
      have := kB_le R.le
      have : kB T p ≠ T.1 := fun z => k0 (kK_0.mpr z)
      omega
    rw [cl26_more R k0 (by omega), ml39_more R k0]
    obtain ⟨g0, gc, gm, a1, a2, a3, a4, a5⟩ := j_any R D W
    rw [a1, zcv_ok, a2, zcv_ok]
    rcases a5 with ⟨b1, b2, p', n', c', wp', wc', b3, b4, b5⟩ | ⟨b1, F, b2, b3⟩
    · obtain ⟨v, fc, fm, r1, r2, r3, r4⟩ := ih p' (x + 1) n' c' wp' wc' gc gm (by omega) (by omega) b4 b5 b2
      rw [b1, zci_ok, zf_neg (show ¬ (1 : Int32) = 0 by decide)]
      exact ⟨v, fc, fm, r1, a3.trans r2, a4.trans r3, r4⟩
    · rw [b1, zci_ok, zf_pos rfl, cl26_end b2]
      exact ⟨nI F, gc, gm, rfl, a3, a4, Or.inr ⟨fun z => b2.ne (by rw [b2.1]; exact z), rfl, b3⟩⟩
